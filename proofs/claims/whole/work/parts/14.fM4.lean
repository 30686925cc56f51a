theorem d217_0 : decode (xcode 217) 0 = .ok (.aload_n 0, 1) := by decide +kernel
theorem d217_1 : decode (xcode 217) 1 = .ok (.invokevirtual 369, 3) := by decide +kernel
theorem d217_4 : decode (xcode 217) 4 = .ok (.iconst 0, 1) := by decide +kernel
theorem d217_5 : decode (xcode 217) 5 = .ok (.istore_n 2, 1) := by decide +kernel
theorem d217_6 : decode (xcode 217) 6 = .ok (.iload_n 2, 1) := by decide +kernel
theorem d217_7 : decode (xcode 217) 7 = .ok (.iload_n 1, 1) := by decide +kernel
theorem d217_8 : decode (xcode 217) 8 = .ok (.if_icmp .ge 54, 3) := by decide +kernel
theorem d217_11 : decode (xcode 217) 11 = .ok (.aload_n 0, 1) := by decide +kernel
theorem d217_12 : decode (xcode 217) 12 = .ok (.aload_n 0, 1) := by decide +kernel
theorem d217_13 : decode (xcode 217) 13 = .ok (.getfield 52, 3) := by decide +kernel
theorem d217_16 : decode (xcode 217) 16 = .ok (.iload_n 2, 1) := by decide +kernel
theorem d217_17 : decode (xcode 217) 17 = .ok (.iaload, 1) := by decide +kernel
theorem d217_18 : decode (xcode 217) 18 = .ok (.invokevirtual 298, 3) := by decide +kernel
theorem d217_21 : decode (xcode 217) 21 = .ok (.ifCond .ne 5, 3) := by decide +kernel
theorem d217_24 : decode (xcode 217) 24 = .ok (.iconst 0, 1) := by decide +kernel
theorem d217_25 : decode (xcode 217) 25 = .ok (.ireturn, 1) := by decide +kernel
theorem d217_26 : decode (xcode 217) 26 = .ok (.aload_n 0, 1) := by decide +kernel
theorem d217_27 : decode (xcode 217) 27 = .ok (.aload_n 0, 1) := by decide +kernel
theorem d217_28 : decode (xcode 217) 28 = .ok (.getfield 52, 3) := by decide +kernel
theorem d217_31 : decode (xcode 217) 31 = .ok (.iload_n 2, 1) := by decide +kernel
theorem d217_32 : decode (xcode 217) 32 = .ok (.iaload, 1) := by decide +kernel
theorem d217_33 : decode (xcode 217) 33 = .ok (.invokevirtual 343, 3) := by decide +kernel
theorem d217_36 : decode (xcode 217) 36 = .ok (.aload_n 0, 1) := by decide +kernel
theorem d217_37 : decode (xcode 217) 37 = .ok (.getfield 39, 3) := by decide +kernel
theorem d217_40 : decode (xcode 217) 40 = .ok (.bipush 12, 2) := by decide +kernel
theorem d217_42 : decode (xcode 217) 42 = .ok (.aload_n 0, 1) := by decide +kernel
theorem d217_43 : decode (xcode 217) 43 = .ok (.getfield 52, 3) := by decide +kernel
theorem d217_46 : decode (xcode 217) 46 = .ok (.iload_n 2, 1) := by decide +kernel
theorem d217_47 : decode (xcode 217) 47 = .ok (.iaload, 1) := by decide +kernel
theorem d217_48 : decode (xcode 217) 48 = .ok (.iadd, 1) := by decide +kernel
theorem d217_49 : decode (xcode 217) 49 = .ok (.iaload, 1) := by decide +kernel
theorem d217_50 : decode (xcode 217) 50 = .ok (.iconst 2, 1) := by decide +kernel
theorem d217_51 : decode (xcode 217) 51 = .ok (.if_icmp .ne 5, 3) := by decide +kernel
theorem d217_54 : decode (xcode 217) 54 = .ok (.iconst 0, 1) := by decide +kernel
theorem d217_55 : decode (xcode 217) 55 = .ok (.ireturn, 1) := by decide +kernel
theorem d217_56 : decode (xcode 217) 56 = .ok (.iinc 2 1, 3) := by decide +kernel
theorem d217_59 : decode (xcode 217) 59 = .ok (.goto (-53), 3) := by decide +kernel
theorem d217_62 : decode (xcode 217) 62 = .ok (.iconst 1, 1) := by decide +kernel
theorem d217_63 : decode (xcode 217) 63 = .ok (.ireturn, 1) := by decide +kernel
noncomputable def f_M_areLifted_s6 (v1 : Int32) (v2 : Int32) (h : xH) : Option ((Int32 × xH) ⊕ (Int32 × xH)) :=
  if v1 ≤ v2 then (
  some (Sum.inr (((1 : Int32), h)))) else (
  if xib v2 9 then (
  (f_M_isLoose (h.2.2.2.1 59 0 (v2).toNatClampNeg) h).bind fun r6 =>
  if r6 = (0 : Int32) then (
  some (Sum.inr (((0 : Int32), h)))) else (
  if xib v2 9 then (
  (f_M_lifts (h.2.2.2.1 59 0 (v2).toNatClampNeg) h).bind fun h12 =>
  if xib v2 9 then (
  if xib ((12 : Int32) + (h12.2.2.2.1 59 0 (v2).toNatClampNeg)) 101 then (
  if (h12.2.2.2.1 56 0 ((12 : Int32) + (h12.2.2.2.1 59 0 (v2).toNatClampNeg)).toNatClampNeg) = (2 : Int32) then (
  some (Sum.inr (((0 : Int32), h12)))) else (
  xlet (v2 + (1 : Int32)) fun v2_16 =>
  some (Sum.inl (v2_16, h12)))) else none) else none) else none)) else none)
set_option maxHeartbeats 4000000 in
set_option maxRecDepth 100000 in
theorem f_M_areLifted_s6_ok {g : xG} {l : Launch} {d : Nat} {v1 : Int32} {v2 : Int32} {h : xH} {o : ((Int32 × xH) ⊕ (Int32 × xH))} {R : Option xV} {H' : xH} (hD : 4 ≤ d) (hf : f_M_areLifted_s6 v1 v2 h = some o) (K1 : ∀ (w2 : Int32) (h1 : xH), o = Sum.inl (w2, h1) → xEv g l d 217 6 [(0, xr 12 (some 0)), (1, xi v1), (2, xi w2)] [] h1 R H') (K0 : ∀ (a : Int32) (h1 : xH), o = Sum.inr ((a, h1)) → R = some (xi a) ∧ H' = h1) : xEv g l d 217 6 [(0, xr 12 (some 0)), (1, xi v1), (2, xi v2)] [] h R H' := by
  unfold f_M_areLifted_s6 at hf
  refine xs_iload_n d217_6 rfl ?_
  refine xs_iload_n d217_7 rfl ?_
  rcases lk_if hf with ⟨hc4, hf⟩ | ⟨hc4, hf⟩
  · refine xs_icmp_ge (tgt := 62) d217_8 (by decide) (fun _ => ?_) (fun hn => absurd hc4 hn)
    refine xs_iconst (v := 1) d217_62 (by decide) ?_
    obtain ⟨eR, eH⟩ := K0 _ _ (Option.some.inj hf).symm
    subst eR; subst eH
    exact xe_zret d217_63 (Or.inr rfl) rt217
  · refine xs_icmp_ge (tgt := 62) d217_8 (by decide) (fun hp => absurd hp hc4) (fun _ => ?_)
    refine xs_aload_n d217_11 rfl ?_
    refine xs_aload_n d217_12 rfl ?_
    refine xe_getc (j := 0) d217_13 ky217 fl187 fk12_26 rfl ?_
    refine xs_iload_n d217_16 rfl ?_
    obtain ⟨hin5, hf⟩ := lk_g hf
    refine xe_iald d217_17 (by decide) ak59 hin5 ?_
    obtain ⟨r6, hc7, hf⟩ := lk_b hf
    refine xe_callv1 (as := [xi (h.2.2.2.1 59 0 (v2).toNatClampNeg)]) (st := []) (h2 := h) (d2 := d - 1) d217_18 ky217 ml229 st188 (by decide) cn188 rfl na188 (Nat.le_of_ble_eq_true rfl) (by omega) (f_M_isLoose_ok (by omega) hc7) ?_
    rcases lk_if hf with ⟨hc8, hf⟩ | ⟨hc8, hf⟩
    · refine xs_if_ne (tgt := 26) d217_21 (by decide) (fun _ => ?_) (fun hn => absurd hc8 hn)
      refine xs_iconst (v := 0) d217_24 (by decide) ?_
      obtain ⟨eR, eH⟩ := K0 _ _ (Option.some.inj hf).symm
      subst eR; subst eH
      exact xe_zret d217_25 (Or.inl rfl) rt217
    · refine xs_if_ne (tgt := 26) d217_21 (by decide) (fun hp => absurd hp hc8) (fun _ => ?_)
      refine xs_aload_n d217_26 rfl ?_
      refine xs_aload_n d217_27 rfl ?_
      refine xe_getc (j := 0) d217_28 ky217 fl187 fk12_26 rfl ?_
      refine xs_iload_n d217_31 rfl ?_
      obtain ⟨hin9, hf⟩ := lk_g hf
      refine xe_iald d217_32 (by decide) ak59 hin9 ?_
      obtain ⟨h12, hc11, hf⟩ := lk_b hf
      refine xe_callv0 (as := [xi (h.2.2.2.1 59 0 (v2).toNatClampNeg)]) (st := []) (h2 := h12) (d2 := d - 1) d217_33 ky217 ml246 st202 (by decide) cn202 rfl na202 (Nat.le_of_ble_eq_true rfl) (by omega) (f_M_lifts_ok (by omega) hc11) ?_
      refine xs_aload_n d217_36 rfl ?_
      refine xe_getc (j := 0) d217_37 ky217 fl181 fk12_20 rfl ?_
      refine xs_bipush (v := 12) d217_40 (by decide) ?_
      refine xs_aload_n d217_42 rfl ?_
      refine xe_getc (j := 0) d217_43 ky217 fl187 fk12_26 rfl ?_
      refine xs_iload_n d217_46 rfl ?_
      obtain ⟨hin13, hf⟩ := lk_g hf
      refine xe_iald d217_47 (by decide) ak59 hin13 ?_
      refine xs_iadd d217_48 ?_
      obtain ⟨hin14, hf⟩ := lk_g hf
      refine xe_iald d217_49 (by decide) ak56 hin14 ?_
      refine xs_iconst (v := 2) d217_50 (by decide) ?_
      rcases lk_if hf with ⟨hc15, hf⟩ | ⟨hc15, hf⟩
      · refine xs_icmp_ne (tgt := 56) d217_51 (by decide) (fun _ => ?_) (fun hn => absurd hc15 hn)
        refine xs_iconst (v := 0) d217_54 (by decide) ?_
        obtain ⟨eR, eH⟩ := K0 _ _ (Option.some.inj hf).symm
        subst eR; subst eH
        exact xe_zret d217_55 (Or.inl rfl) rt217
      · refine xs_icmp_ne (tgt := 56) d217_51 (by decide) (fun hp => absurd hp hc15) (fun _ => ?_)
        obtain ⟨v2_16, ev2_16, hf⟩ := lk_let hf
        refine xe_iinc (v := v2_16) (b := 1) (ls2 := [(0, xr 12 (some 0)), (1, xi v1), (2, xi v2_16)]) d217_56 mx217 (by decide) rfl (by decide) ev2_16 rfl ?_
        refine xs_goto (tgt := 6) d217_59 (by decide) ?_
        exact K1 _ _ (Option.some.inj hf).symm
noncomputable def f_M_areLifted_l6 (v1 : Int32) (v2 : Int32) (h : xH) : Option (Int32 × xH) :=
  whl (fun s => f_M_areLifted_s6 v1 s.1 s.2) (v2, h)
theorem f_M_areLifted_l6_ok {g : xG} {l : Launch} {d : Nat} {v1 : Int32} {v2 : Int32} {h : xH} {o : (Int32 × xH)} {R : Option xV} {H' : xH} (hD : 4 ≤ d) (hf : f_M_areLifted_l6 v1 v2 h = some o) (K0 : ∀ (a : Int32) (h1 : xH), o = (a, h1) → R = some (xi a) ∧ H' = h1) : xEv g l d 217 6 [(0, xr 12 (some 0)), (1, xi v1), (2, xi v2)] [] h R H' := by
  obtain ⟨n, hn⟩ := whl_iff.mp hf
  clear hf
  induction n generalizing v2 h with
  | zero => cases hn
  | succ n ih =>
    obtain ⟨o2, hs, hn⟩ := lk_b (show (f_M_areLifted_s6 v1 v2 h).bind (fun o => Sum.elim (itn _ n) some o) = some o from hn)
    exact f_M_areLifted_s6_ok hD hs (fun u0 u1 e => ih (by rw [e] at hn; exact hn)) (fun u0 u1 e => K0 u0 u1 (by rw [e] at hn; exact (Option.some.inj hn).symm))
noncomputable def f_M_areLifted_e (v1 : Int32) (h : xH) : Option (Int32 × xH) :=
  (f_M_laysBack h).bind fun h3 =>
  f_M_areLifted_l6 v1 (0 : Int32) h3
set_option maxHeartbeats 4000000 in
set_option maxRecDepth 100000 in
theorem f_M_areLifted_e_ok {g : xG} {l : Launch} {d : Nat} {v1 : Int32} {h : xH} {o : (Int32 × xH)} {R : Option xV} {H' : xH} (hD : 4 ≤ d) (hf : f_M_areLifted_e v1 h = some o) (K0 : ∀ (a : Int32) (h1 : xH), o = (a, h1) → R = some (xi a) ∧ H' = h1) : xEv g l d 217 0 [(0, xr 12 (some 0)), (1, xi v1)] [] h R H' := by
  unfold f_M_areLifted_e at hf
  refine xs_aload_n d217_0 rfl ?_
  obtain ⟨h3, hc2, hf⟩ := lk_b hf
  refine xe_callv0 (as := []) (st := []) (h2 := h3) (d2 := d - 1) d217_1 ky217 ml254 st213 (by decide) cn213 rfl na213 (Nat.le_of_ble_eq_true rfl) (by omega) (f_M_laysBack_ok (by omega) hc2) ?_
  refine xs_iconst (v := 0) d217_4 (by decide) ?_
  refine xe_istore_n (v := (0 : Int32)) (ls2 := [(0, xr 12 (some 0)), (1, xi v1), (2, xi (0 : Int32))]) d217_5 mx217 (by decide) rfl rfl ?_
  exact f_M_areLifted_l6_ok hD hf K0
noncomputable def f_M_areLifted (v1 : Int32) (h : xH) : Option (Int32 × xH) := f_M_areLifted_e v1 h
theorem f_M_areLifted_ok {g : xG} {l : Launch} {d : Nat} {v1 : Int32} {h : xH} {r : Int32} {h1 : xH} (hD : 4 ≤ d) (hf : f_M_areLifted v1 h = some (r, h1)) : xC g l d 217 [xr 12 (some 0), xi v1] h (some (xi r)) h1 :=
  xC_of2 (by decide) mx217 (Nat.le_of_ble_eq_true rfl) (f_M_areLifted_e_ok hD hf (fun _ _ e => by cases e; exact ⟨rfl, rfl⟩))
theorem d218_0 : decode (xcode 218) 0 = .ok (.iconst 0, 1) := by decide +kernel
theorem d218_1 : decode (xcode 218) 1 = .ok (.istore_n 3, 1) := by decide +kernel
theorem d218_2 : decode (xcode 218) 2 = .ok (.iconst 0, 1) := by decide +kernel
theorem d218_3 : decode (xcode 218) 3 = .ok (.istore 4, 2) := by decide +kernel
theorem d218_5 : decode (xcode 218) 5 = .ok (.iload 4, 2) := by decide +kernel
theorem d218_7 : decode (xcode 218) 7 = .ok (.iload_n 1, 1) := by decide +kernel
theorem d218_8 : decode (xcode 218) 8 = .ok (.if_icmp .ge 26, 3) := by decide +kernel
theorem d218_11 : decode (xcode 218) 11 = .ok (.iload_n 3, 1) := by decide +kernel
theorem d218_12 : decode (xcode 218) 12 = .ok (.aload_n 0, 1) := by decide +kernel
theorem d218_13 : decode (xcode 218) 13 = .ok (.getfield 39, 3) := by decide +kernel
theorem d218_16 : decode (xcode 218) 16 = .ok (.iload_n 2, 1) := by decide +kernel
theorem d218_17 : decode (xcode 218) 17 = .ok (.aload_n 0, 1) := by decide +kernel
theorem d218_18 : decode (xcode 218) 18 = .ok (.getfield 52, 3) := by decide +kernel
theorem d218_21 : decode (xcode 218) 21 = .ok (.iload 4, 2) := by decide +kernel
theorem d218_23 : decode (xcode 218) 23 = .ok (.iaload, 1) := by decide +kernel
theorem d218_24 : decode (xcode 218) 24 = .ok (.iadd, 1) := by decide +kernel
theorem d218_25 : decode (xcode 218) 25 = .ok (.iaload, 1) := by decide +kernel
theorem d218_26 : decode (xcode 218) 26 = .ok (.iadd, 1) := by decide +kernel
theorem d218_27 : decode (xcode 218) 27 = .ok (.istore_n 3, 1) := by decide +kernel
theorem d218_28 : decode (xcode 218) 28 = .ok (.iinc 4 1, 3) := by decide +kernel
theorem d218_31 : decode (xcode 218) 31 = .ok (.goto (-26), 3) := by decide +kernel
theorem d218_34 : decode (xcode 218) 34 = .ok (.iload_n 3, 1) := by decide +kernel
theorem d218_35 : decode (xcode 218) 35 = .ok (.ireturn, 1) := by decide +kernel
noncomputable def f_M_rowSum_s5 (v1 : Int32) (v2 : Int32) (v3 : Int32) (v4 : Int32) (h : xH) : Option ((Int32 × Int32) ⊕ Int32) :=
  if v1 ≤ v4 then (
  some (Sum.inr (v3))) else (
  if xib v4 9 then (
  if xib (v2 + (h.2.2.2.1 59 0 (v4).toNatClampNeg)) 101 then (
  xlet (v3 + (h.2.2.2.1 56 0 (v2 + (h.2.2.2.1 59 0 (v4).toNatClampNeg)).toNatClampNeg)) fun v3_4 =>
  xlet (v4 + (1 : Int32)) fun v4_5 =>
  some (Sum.inl (v3_4, v4_5))) else none) else none)
set_option maxHeartbeats 4000000 in
set_option maxRecDepth 100000 in
theorem f_M_rowSum_s5_ok {g : xG} {l : Launch} {d : Nat} {v1 : Int32} {v2 : Int32} {v3 : Int32} {v4 : Int32} {h : xH} {o : ((Int32 × Int32) ⊕ Int32)} {R : Option xV} (hD : 0 ≤ d) (hf : f_M_rowSum_s5 v1 v2 v3 v4 h = some o) (K1 : ∀ (w3 : Int32) (w4 : Int32), o = Sum.inl (w3, w4) → xEv g l d 218 5 [(0, xr 12 (some 0)), (1, xi v1), (2, xi v2), (3, xi w3), (4, xi w4)] [] h R h) (K0 : ∀ (a : Int32), o = Sum.inr (a) → R = some (xi a)) : xEv g l d 218 5 [(0, xr 12 (some 0)), (1, xi v1), (2, xi v2), (3, xi v3), (4, xi v4)] [] h R h := by
  unfold f_M_rowSum_s5 at hf
  refine xs_iload d218_5 rfl ?_
  refine xs_iload_n d218_7 rfl ?_
  rcases lk_if hf with ⟨hc1, hf⟩ | ⟨hc1, hf⟩
  · refine xs_icmp_ge (tgt := 34) d218_8 (by decide) (fun _ => ?_) (fun hn => absurd hc1 hn)
    refine xs_iload_n d218_34 rfl ?_
    obtain eR := K0 _ (Option.some.inj hf).symm
    subst eR
    exact xs_iret d218_35 rt218
  · refine xs_icmp_ge (tgt := 34) d218_8 (by decide) (fun hp => absurd hp hc1) (fun _ => ?_)
    refine xs_iload_n d218_11 rfl ?_
    refine xs_aload_n d218_12 rfl ?_
    refine xe_getc (j := 0) d218_13 ky218 fl181 fk12_20 rfl ?_
    refine xs_iload_n d218_16 rfl ?_
    refine xs_aload_n d218_17 rfl ?_
    refine xe_getc (j := 0) d218_18 ky218 fl187 fk12_26 rfl ?_
    refine xs_iload d218_21 rfl ?_
    obtain ⟨hin2, hf⟩ := lk_g hf
    refine xe_iald d218_23 (by decide) ak59 hin2 ?_
    refine xs_iadd d218_24 ?_
    obtain ⟨hin3, hf⟩ := lk_g hf
    refine xe_iald d218_25 (by decide) ak56 hin3 ?_
    refine xs_iadd d218_26 ?_
    obtain ⟨v3_4, ev3_4, hf⟩ := lk_let hf
    refine xe_istore_n (v := v3_4) (ls2 := [(0, xr 12 (some 0)), (1, xi v1), (2, xi v2), (3, xi v3_4), (4, xi v4)]) d218_27 mx218 (by decide) ev3_4 rfl ?_
    obtain ⟨v4_5, ev4_5, hf⟩ := lk_let hf
    refine xe_iinc (v := v4_5) (b := 1) (ls2 := [(0, xr 12 (some 0)), (1, xi v1), (2, xi v2), (3, xi v3_4), (4, xi v4_5)]) d218_28 mx218 (by decide) rfl (by decide) ev4_5 rfl ?_
    refine xs_goto (tgt := 5) d218_31 (by decide) ?_
    exact K1 _ _ (Option.some.inj hf).symm
noncomputable def f_M_rowSum_l5 (v1 : Int32) (v2 : Int32) (v3 : Int32) (v4 : Int32) (h : xH) : Option Int32 :=
  whl (fun s => f_M_rowSum_s5 v1 v2 s.1 s.2 h) (v3, v4)
theorem f_M_rowSum_l5_ok {g : xG} {l : Launch} {d : Nat} {v1 : Int32} {v2 : Int32} {v3 : Int32} {v4 : Int32} {h : xH} {o : Int32} {R : Option xV} (hD : 0 ≤ d) (hf : f_M_rowSum_l5 v1 v2 v3 v4 h = some o) (K0 : ∀ (a : Int32), o = a → R = some (xi a)) : xEv g l d 218 5 [(0, xr 12 (some 0)), (1, xi v1), (2, xi v2), (3, xi v3), (4, xi v4)] [] h R h := by
  obtain ⟨n, hn⟩ := whl_iff.mp hf
  clear hf
  induction n generalizing v3 v4 with
  | zero => cases hn
  | succ n ih =>
    obtain ⟨o2, hs, hn⟩ := lk_b (show (f_M_rowSum_s5 v1 v2 v3 v4 h).bind (fun o => Sum.elim (itn _ n) some o) = some o from hn)
    exact f_M_rowSum_s5_ok hD hs (fun u0 u1 e => ih (by rw [e] at hn; exact hn)) (fun u0 e => K0 u0 (by rw [e] at hn; exact (Option.some.inj hn).symm))
noncomputable def f_M_rowSum_e (v1 : Int32) (v2 : Int32) (h : xH) : Option Int32 :=
  f_M_rowSum_l5 v1 v2 (0 : Int32) (0 : Int32) h
set_option maxHeartbeats 4000000 in
set_option maxRecDepth 100000 in
theorem f_M_rowSum_e_ok {g : xG} {l : Launch} {d : Nat} {v1 : Int32} {v2 : Int32} {h : xH} {o : Int32} {R : Option xV} (hD : 0 ≤ d) (hf : f_M_rowSum_e v1 v2 h = some o) (K0 : ∀ (a : Int32), o = a → R = some (xi a)) : xEv g l d 218 0 [(0, xr 12 (some 0)), (1, xi v1), (2, xi v2)] [] h R h := by
  unfold f_M_rowSum_e at hf
  refine xs_iconst (v := 0) d218_0 (by decide) ?_
  refine xe_istore_n (v := (0 : Int32)) (ls2 := [(0, xr 12 (some 0)), (1, xi v1), (2, xi v2), (3, xi (0 : Int32))]) d218_1 mx218 (by decide) rfl rfl ?_
  refine xs_iconst (v := 0) d218_2 (by decide) ?_
  refine xe_istore (v := (0 : Int32)) (ls2 := [(0, xr 12 (some 0)), (1, xi v1), (2, xi v2), (3, xi (0 : Int32)), (4, xi (0 : Int32))]) d218_3 mx218 (by decide) rfl rfl ?_
  exact f_M_rowSum_l5_ok hD hf K0
noncomputable def f_M_rowSum (v1 : Int32) (v2 : Int32) (h : xH) : Option Int32 := f_M_rowSum_e v1 v2 h
theorem f_M_rowSum_ok {g : xG} {l : Launch} {d : Nat} {v1 : Int32} {v2 : Int32} {h : xH} {r : Int32} (hD : 0 ≤ d) (hf : f_M_rowSum v1 v2 h = some r) : xC g l d 218 [xr 12 (some 0), xi v1, xi v2] h (some (xi r)) h :=
  xC_of2 (by decide) mx218 (Nat.le_of_ble_eq_true rfl) (f_M_rowSum_e_ok hD hf (fun _ e => by rw [e]))
theorem d219_0 : decode (xcode 219) 0 = .ok (.aload_n 0, 1) := by decide +kernel
theorem d219_1 : decode (xcode 219) 1 = .ok (.iload_n 1, 1) := by decide +kernel
theorem d219_2 : decode (xcode 219) 2 = .ok (.bipush 52, 2) := by decide +kernel
theorem d219_4 : decode (xcode 219) 4 = .ok (.invokevirtual 374, 3) := by decide +kernel
theorem d219_7 : decode (xcode 219) 7 = .ok (.istore_n 2, 1) := by decide +kernel
theorem d219_8 : decode (xcode 219) 8 = .ok (.aload_n 0, 1) := by decide +kernel
theorem d219_9 : decode (xcode 219) 9 = .ok (.iload_n 1, 1) := by decide +kernel
theorem d219_10 : decode (xcode 219) 10 = .ok (.bipush 44, 2) := by decide +kernel
theorem d219_12 : decode (xcode 219) 12 = .ok (.invokevirtual 374, 3) := by decide +kernel
theorem d219_15 : decode (xcode 219) 15 = .ok (.istore_n 3, 1) := by decide +kernel
theorem d219_16 : decode (xcode 219) 16 = .ok (.iload_n 2, 1) := by decide +kernel
theorem d219_17 : decode (xcode 219) 17 = .ok (.aload_n 0, 1) := by decide +kernel
theorem d219_18 : decode (xcode 219) 18 = .ok (.getfield 377, 3) := by decide +kernel
theorem d219_21 : decode (xcode 219) 21 = .ok (.if_icmp .lt 19, 3) := by decide +kernel
theorem d219_24 : decode (xcode 219) 24 = .ok (.iload_n 2, 1) := by decide +kernel
theorem d219_25 : decode (xcode 219) 25 = .ok (.aload_n 0, 1) := by decide +kernel
theorem d219_26 : decode (xcode 219) 26 = .ok (.getfield 377, 3) := by decide +kernel
theorem d219_29 : decode (xcode 219) 29 = .ok (.if_icmp .ne 12, 3) := by decide +kernel
theorem d219_32 : decode (xcode 219) 32 = .ok (.iload_n 3, 1) := by decide +kernel
theorem d219_33 : decode (xcode 219) 33 = .ok (.aload_n 0, 1) := by decide +kernel
theorem d219_34 : decode (xcode 219) 34 = .ok (.getfield 380, 3) := by decide +kernel
theorem d219_37 : decode (xcode 219) 37 = .ok (.if_icmp .lt 4, 3) := by decide +kernel
theorem d219_40 : decode (xcode 219) 40 = .ok (.return_, 1) := by decide +kernel
theorem d219_41 : decode (xcode 219) 41 = .ok (.aload_n 0, 1) := by decide +kernel
theorem d219_42 : decode (xcode 219) 42 = .ok (.iload_n 2, 1) := by decide +kernel
theorem d219_43 : decode (xcode 219) 43 = .ok (.putfield 377, 3) := by decide +kernel
theorem d219_46 : decode (xcode 219) 46 = .ok (.aload_n 0, 1) := by decide +kernel
theorem d219_47 : decode (xcode 219) 47 = .ok (.iload_n 3, 1) := by decide +kernel
theorem d219_48 : decode (xcode 219) 48 = .ok (.putfield 380, 3) := by decide +kernel
theorem d219_51 : decode (xcode 219) 51 = .ok (.aload_n 0, 1) := by decide +kernel
theorem d219_52 : decode (xcode 219) 52 = .ok (.iload_n 1, 1) := by decide +kernel
theorem d219_53 : decode (xcode 219) 53 = .ok (.putfield 383, 3) := by decide +kernel
theorem d219_56 : decode (xcode 219) 56 = .ok (.iconst 0, 1) := by decide +kernel
theorem d219_57 : decode (xcode 219) 57 = .ok (.istore 4, 2) := by decide +kernel
theorem d219_59 : decode (xcode 219) 59 = .ok (.iload 4, 2) := by decide +kernel
theorem d219_61 : decode (xcode 219) 61 = .ok (.iload_n 1, 1) := by decide +kernel
theorem d219_62 : decode (xcode 219) 62 = .ok (.if_icmp .ge 23, 3) := by decide +kernel
theorem d219_65 : decode (xcode 219) 65 = .ok (.aload_n 0, 1) := by decide +kernel
theorem d219_66 : decode (xcode 219) 66 = .ok (.getfield 55, 3) := by decide +kernel
theorem d219_69 : decode (xcode 219) 69 = .ok (.iload 4, 2) := by decide +kernel
theorem d219_71 : decode (xcode 219) 71 = .ok (.aload_n 0, 1) := by decide +kernel
theorem d219_72 : decode (xcode 219) 72 = .ok (.getfield 52, 3) := by decide +kernel
theorem d219_75 : decode (xcode 219) 75 = .ok (.iload 4, 2) := by decide +kernel
theorem d219_77 : decode (xcode 219) 77 = .ok (.iaload, 1) := by decide +kernel
theorem d219_78 : decode (xcode 219) 78 = .ok (.iastore, 1) := by decide +kernel
theorem d219_79 : decode (xcode 219) 79 = .ok (.iinc 4 1, 3) := by decide +kernel
theorem d219_82 : decode (xcode 219) 82 = .ok (.goto (-23), 3) := by decide +kernel
theorem d219_85 : decode (xcode 219) 85 = .ok (.return_, 1) := by decide +kernel
noncomputable def f_M_weighsRow_s59 (v1 : Int32) (v4 : Int32) (h : xH) : Option ((Int32 × xH) ⊕ xH) :=
  if v1 ≤ v4 then (
  some (Sum.inr (h))) else (
  if xib v4 9 then (
  if xib v4 8 then (
  xlet (xsA h 60 0 (upd (h.2.2.2.1 60 0) (v4).toNatClampNeg (h.2.2.2.1 59 0 (v4).toNatClampNeg))) fun h14 =>
  xlet (v4 + (1 : Int32)) fun v4_15 =>
  some (Sum.inl (v4_15, h14))) else none) else none)
set_option maxHeartbeats 4000000 in
set_option maxRecDepth 100000 in
theorem f_M_weighsRow_s59_ok {g : xG} {l : Launch} {d : Nat} {v1 : Int32} {v4 : Int32} {h : xH} {o : ((Int32 × xH) ⊕ xH)} {R : Option xV} {H' : xH} (hD : 1 ≤ d) (hf : f_M_weighsRow_s59 v1 v4 h = some o) (K1 : ∀ (w4 : Int32) (h1 : xH), o = Sum.inl (w4, h1) → xEv g l d 219 59 [(0, xr 12 (some 0)), (1, xi v1), (4, xi w4)] [] h1 R H') (K0 : ∀ (h1 : xH), o = Sum.inr (h1) → R = none ∧ H' = h1) : xEv g l d 219 59 [(0, xr 12 (some 0)), (1, xi v1), (4, xi v4)] [] h R H' := by
  unfold f_M_weighsRow_s59 at hf
  refine xs_iload d219_59 rfl ?_
  refine xs_iload_n d219_61 rfl ?_
  rcases lk_if hf with ⟨hc11, hf⟩ | ⟨hc11, hf⟩
  · refine xs_icmp_ge (tgt := 85) d219_62 (by decide) (fun _ => ?_) (fun hn => absurd hc11 hn)
    obtain ⟨eR, eH⟩ := K0 _ (Option.some.inj hf).symm
    subst eR; subst eH
    exact xs_vret d219_85 rt219
  · refine xs_icmp_ge (tgt := 85) d219_62 (by decide) (fun hp => absurd hp hc11) (fun _ => ?_)
    refine xs_aload_n d219_65 rfl ?_
    refine xe_getc (j := 0) d219_66 ky219 fl188 fk12_27 rfl ?_
    refine xs_iload d219_69 rfl ?_
    refine xs_aload_n d219_71 rfl ?_
    refine xe_getc (j := 0) d219_72 ky219 fl187 fk12_26 rfl ?_
    refine xs_iload d219_75 rfl ?_
    obtain ⟨hin12, hf⟩ := lk_g hf
    refine xe_iald d219_77 (by decide) ak59 hin12 ?_
    obtain ⟨hin13, hf⟩ := lk_g hf
    obtain ⟨h14, eh14, hf⟩ := lk_let hf
    refine xe_iast d219_78 (by decide) ak60 hin13  eh14 ?_
    obtain ⟨v4_15, ev4_15, hf⟩ := lk_let hf
    refine xe_iinc (v := v4_15) (b := 1) (ls2 := [(0, xr 12 (some 0)), (1, xi v1), (4, xi v4_15)]) d219_79 mx219 (by decide) rfl (by decide) ev4_15 rfl ?_
    refine xs_goto (tgt := 59) d219_82 (by decide) ?_
    exact K1 _ _ (Option.some.inj hf).symm
noncomputable def f_M_weighsRow_l59 (v1 : Int32) (v4 : Int32) (h : xH) : Option xH :=
  whl (fun s => f_M_weighsRow_s59 v1 s.1 s.2) (v4, h)
theorem f_M_weighsRow_l59_ok {g : xG} {l : Launch} {d : Nat} {v1 : Int32} {v4 : Int32} {h : xH} {o : xH} {R : Option xV} {H' : xH} (hD : 1 ≤ d) (hf : f_M_weighsRow_l59 v1 v4 h = some o) (K0 : ∀ (h1 : xH), o = h1 → R = none ∧ H' = h1) : xEv g l d 219 59 [(0, xr 12 (some 0)), (1, xi v1), (4, xi v4)] [] h R H' := by
  obtain ⟨n, hn⟩ := whl_iff.mp hf
  clear hf
  induction n generalizing v4 h with
  | zero => cases hn
  | succ n ih =>
    obtain ⟨o2, hs, hn⟩ := lk_b (show (f_M_weighsRow_s59 v1 v4 h).bind (fun o => Sum.elim (itn _ n) some o) = some o from hn)
    exact f_M_weighsRow_s59_ok hD hs (fun u0 u1 e => ih (by rw [e] at hn; exact hn)) (fun u0 e => K0 u0 (by rw [e] at hn; exact (Option.some.inj hn).symm))
noncomputable def f_M_weighsRow_b41 (v1 : Int32) (v2 : Int32) (v3 : Int32) (h : xH) : Option xH :=
  xlet (xsI h 12 29 0 v2) fun h8 =>
  xlet (xsI h8 12 30 0 v3) fun h9 =>
  xlet (xsI h9 12 28 0 v1) fun h10 =>
  f_M_weighsRow_l59 v1 (0 : Int32) h10
set_option maxHeartbeats 4000000 in
set_option maxRecDepth 100000 in
theorem f_M_weighsRow_b41_ok {g : xG} {l : Launch} {d : Nat} {v1 : Int32} {v2 : Int32} {v3 : Int32} {h : xH} {o : xH} {R : Option xV} {H' : xH} (hD : 1 ≤ d) (hf : f_M_weighsRow_b41 v1 v2 v3 h = some o) (K0 : ∀ (h1 : xH), o = h1 → R = none ∧ H' = h1) : xEv g l d 219 41 [(0, xr 12 (some 0)), (1, xi v1), (2, xi v2), (3, xi v3)] [] h R H' := by
  unfold f_M_weighsRow_b41 at hf
  refine xs_aload_n d219_41 rfl ?_
  refine xs_iload_n d219_42 rfl ?_
  obtain ⟨h8, eh8, hf⟩ := lk_let hf
  refine xe_puti d219_43 ky219 fl190 fk12_29 ft12_29 eh8 ?_
  refine xs_aload_n d219_46 rfl ?_
  refine xs_iload_n d219_47 rfl ?_
  obtain ⟨h9, eh9, hf⟩ := lk_let hf
  refine xe_puti d219_48 ky219 fl191 fk12_30 ft12_30 eh9 ?_
  refine xs_aload_n d219_51 rfl ?_
  refine xs_iload_n d219_52 rfl ?_
  obtain ⟨h10, eh10, hf⟩ := lk_let hf
  refine xe_puti d219_53 ky219 fl189 fk12_28 ft12_28 eh10 ?_
  refine xs_iconst (v := 0) d219_56 (by decide) ?_
  refine xe_istore (v := (0 : Int32)) (ls2 := [(0, xr 12 (some 0)), (1, xi v1), (2, xi v2), (3, xi v3), (4, xi (0 : Int32))]) d219_57 mx219 (by decide) rfl rfl ?_
  refine xs_pick [0, 1, 4] rfl ?_
  exact f_M_weighsRow_l59_ok hD hf K0
noncomputable def f_M_weighsRow_e (v1 : Int32) (h : xH) : Option xH :=
  (f_M_rowSum v1 (52 : Int32) h).bind fun r1 =>
  (f_M_rowSum v1 (44 : Int32) h).bind fun r3 =>
  if r1 < (h.1 12 29 0) then (
  some (h)) else (
  if r1 = (h.1 12 29 0) then (
  if r3 < (h.1 12 30 0) then (
  f_M_weighsRow_b41 v1 r1 r3 h) else (
  some (h))) else (
  f_M_weighsRow_b41 v1 r1 r3 h))
set_option maxHeartbeats 4000000 in
set_option maxRecDepth 100000 in
theorem f_M_weighsRow_e_ok {g : xG} {l : Launch} {d : Nat} {v1 : Int32} {h : xH} {o : xH} {R : Option xV} {H' : xH} (hD : 1 ≤ d) (hf : f_M_weighsRow_e v1 h = some o) (K0 : ∀ (h1 : xH), o = h1 → R = none ∧ H' = h1) : xEv g l d 219 0 [(0, xr 12 (some 0)), (1, xi v1)] [] h R H' := by
  unfold f_M_weighsRow_e at hf
  refine xs_aload_n d219_0 rfl ?_
  refine xs_iload_n d219_1 rfl ?_
  refine xs_bipush (v := 52) d219_2 (by decide) ?_
  obtain ⟨r1, hc2, hf⟩ := lk_b hf
  refine xe_callv1 (as := [xi v1, xi (52 : Int32)]) (st := []) (h2 := h) (d2 := d - 1) d219_4 ky219 ml261 st218 (by decide) cn218 rfl na218 (Nat.le_of_ble_eq_true rfl) (by omega) (f_M_rowSum_ok (by omega) hc2) ?_
  refine xe_istore_n (v := r1) (ls2 := [(0, xr 12 (some 0)), (1, xi v1), (2, xi r1)]) d219_7 mx219 (by decide) rfl rfl ?_
  refine xs_aload_n d219_8 rfl ?_
  refine xs_iload_n d219_9 rfl ?_
  refine xs_bipush (v := 44) d219_10 (by decide) ?_
  obtain ⟨r3, hc4, hf⟩ := lk_b hf
  refine xe_callv1 (as := [xi v1, xi (44 : Int32)]) (st := []) (h2 := h) (d2 := d - 1) d219_12 ky219 ml261 st218 (by decide) cn218 rfl na218 (Nat.le_of_ble_eq_true rfl) (by omega) (f_M_rowSum_ok (by omega) hc4) ?_
  refine xe_istore_n (v := r3) (ls2 := [(0, xr 12 (some 0)), (1, xi v1), (2, xi r1), (3, xi r3)]) d219_15 mx219 (by decide) rfl rfl ?_
  refine xs_iload_n d219_16 rfl ?_
  refine xs_aload_n d219_17 rfl ?_
  refine xe_geti d219_18 ky219 fl190 fk12_29 ?_
  rcases lk_if hf with ⟨hc5, hf⟩ | ⟨hc5, hf⟩
  · refine xs_icmp_lt (tgt := 40) d219_21 (by decide) (fun _ => ?_) (fun hn => absurd hc5 hn)
    obtain ⟨eR, eH⟩ := K0 _ (Option.some.inj hf).symm
    subst eR; subst eH
    exact xs_vret d219_40 rt219
  · refine xs_icmp_lt (tgt := 40) d219_21 (by decide) (fun hp => absurd hp hc5) (fun _ => ?_)
    refine xs_iload_n d219_24 rfl ?_
    refine xs_aload_n d219_25 rfl ?_
    refine xe_geti d219_26 ky219 fl190 fk12_29 ?_
    rcases lk_if hf with ⟨hc6, hf⟩ | ⟨hc6, hf⟩
    · refine xs_icmp_ne (tgt := 41) d219_29 (by decide) (fun _ => ?_) (fun hn => absurd hc6 hn)
      refine xs_iload_n d219_32 rfl ?_
      refine xs_aload_n d219_33 rfl ?_
      refine xe_geti d219_34 ky219 fl191 fk12_30 ?_
      rcases lk_if hf with ⟨hc7, hf⟩ | ⟨hc7, hf⟩
      · refine xs_icmp_lt (tgt := 41) d219_37 (by decide) (fun _ => ?_) (fun hn => absurd hc7 hn)
        exact f_M_weighsRow_b41_ok hD hf K0
      · refine xs_icmp_lt (tgt := 41) d219_37 (by decide) (fun hp => absurd hp hc7) (fun _ => ?_)
        obtain ⟨eR, eH⟩ := K0 _ (Option.some.inj hf).symm
        subst eR; subst eH
        exact xs_vret d219_40 rt219
    · refine xs_icmp_ne (tgt := 41) d219_29 (by decide) (fun hp => absurd hp hc6) (fun _ => ?_)
      exact f_M_weighsRow_b41_ok hD hf K0
noncomputable def f_M_weighsRow (v1 : Int32) (h : xH) : Option xH := f_M_weighsRow_e v1 h
theorem f_M_weighsRow_ok {g : xG} {l : Launch} {d : Nat} {v1 : Int32} {h : xH} {h1 : xH} (hD : 1 ≤ d) (hf : f_M_weighsRow v1 h = some h1) : xC g l d 219 [xr 12 (some 0), xi v1] h none h1 :=
  xC_of2 (by decide) mx219 (Nat.le_of_ble_eq_true rfl) (f_M_weighsRow_e_ok hD hf (fun _ e => ⟨rfl, e⟩))
theorem d220_0 : decode (xcode 220) 0 = .ok (.aload_n 0, 1) := by decide +kernel
theorem d220_1 : decode (xcode 220) 1 = .ok (.iconst 0, 1) := by decide +kernel
theorem d220_2 : decode (xcode 220) 2 = .ok (.putfield 377, 3) := by decide +kernel
theorem d220_5 : decode (xcode 220) 5 = .ok (.aload_n 0, 1) := by decide +kernel
theorem d220_6 : decode (xcode 220) 6 = .ok (.iconst 0, 1) := by decide +kernel
theorem d220_7 : decode (xcode 220) 7 = .ok (.putfield 380, 3) := by decide +kernel
theorem d220_10 : decode (xcode 220) 10 = .ok (.aload_n 0, 1) := by decide +kernel
theorem d220_11 : decode (xcode 220) 11 = .ok (.iconst 0, 1) := by decide +kernel
theorem d220_12 : decode (xcode 220) 12 = .ok (.putfield 383, 3) := by decide +kernel
theorem d220_15 : decode (xcode 220) 15 = .ok (.aload_n 0, 1) := by decide +kernel
theorem d220_16 : decode (xcode 220) 16 = .ok (.invokevirtual 363, 3) := by decide +kernel
theorem d220_19 : decode (xcode 220) 19 = .ok (.iconst 0, 1) := by decide +kernel
theorem d220_20 : decode (xcode 220) 20 = .ok (.istore_n 1, 1) := by decide +kernel
theorem d220_21 : decode (xcode 220) 21 = .ok (.aload_n 0, 1) := by decide +kernel
theorem d220_22 : decode (xcode 220) 22 = .ok (.getfield 52, 3) := by decide +kernel
theorem d220_25 : decode (xcode 220) 25 = .ok (.iconst 0, 1) := by decide +kernel
theorem d220_26 : decode (xcode 220) 26 = .ok (.iconst (-1), 1) := by decide +kernel
theorem d220_27 : decode (xcode 220) 27 = .ok (.iastore, 1) := by decide +kernel
theorem d220_28 : decode (xcode 220) 28 = .ok (.iload_n 1, 1) := by decide +kernel
theorem d220_29 : decode (xcode 220) 29 = .ok (.ifCond .lt 65, 3) := by decide +kernel
theorem d220_32 : decode (xcode 220) 32 = .ok (.aload_n 0, 1) := by decide +kernel
theorem d220_33 : decode (xcode 220) 33 = .ok (.getfield 52, 3) := by decide +kernel
theorem d220_36 : decode (xcode 220) 36 = .ok (.iload_n 1, 1) := by decide +kernel
theorem d220_37 : decode (xcode 220) 37 = .ok (.dup2, 1) := by decide +kernel
theorem d220_38 : decode (xcode 220) 38 = .ok (.iaload, 1) := by decide +kernel
theorem d220_39 : decode (xcode 220) 39 = .ok (.iconst 1, 1) := by decide +kernel
theorem d220_40 : decode (xcode 220) 40 = .ok (.iadd, 1) := by decide +kernel
theorem d220_41 : decode (xcode 220) 41 = .ok (.iastore, 1) := by decide +kernel
theorem d220_42 : decode (xcode 220) 42 = .ok (.aload_n 0, 1) := by decide +kernel
theorem d220_43 : decode (xcode 220) 43 = .ok (.getfield 52, 3) := by decide +kernel
theorem d220_46 : decode (xcode 220) 46 = .ok (.iload_n 1, 1) := by decide +kernel
theorem d220_47 : decode (xcode 220) 47 = .ok (.iaload, 1) := by decide +kernel
theorem d220_48 : decode (xcode 220) 48 = .ok (.aload_n 0, 1) := by decide +kernel
theorem d220_49 : decode (xcode 220) 49 = .ok (.getfield 39, 3) := by decide +kernel
theorem d220_52 : decode (xcode 220) 52 = .ok (.iconst 3, 1) := by decide +kernel
theorem d220_53 : decode (xcode 220) 53 = .ok (.iaload, 1) := by decide +kernel
theorem d220_54 : decode (xcode 220) 54 = .ok (.if_icmp .lt 9, 3) := by decide +kernel
theorem d220_57 : decode (xcode 220) 57 = .ok (.iinc 1 (-1), 3) := by decide +kernel
theorem d220_60 : decode (xcode 220) 60 = .ok (.goto (-32), 3) := by decide +kernel
theorem d220_63 : decode (xcode 220) 63 = .ok (.aload_n 0, 1) := by decide +kernel
theorem d220_64 : decode (xcode 220) 64 = .ok (.iload_n 1, 1) := by decide +kernel
theorem d220_65 : decode (xcode 220) 65 = .ok (.iconst 1, 1) := by decide +kernel
theorem d220_66 : decode (xcode 220) 66 = .ok (.iadd, 1) := by decide +kernel
theorem d220_67 : decode (xcode 220) 67 = .ok (.invokevirtual 386, 3) := by decide +kernel
theorem d220_70 : decode (xcode 220) 70 = .ok (.ifCond .ne 6, 3) := by decide +kernel
theorem d220_73 : decode (xcode 220) 73 = .ok (.goto (-45), 3) := by decide +kernel
theorem d220_76 : decode (xcode 220) 76 = .ok (.iinc 1 1, 3) := by decide +kernel
theorem d220_79 : decode (xcode 220) 79 = .ok (.aload_n 0, 1) := by decide +kernel
theorem d220_80 : decode (xcode 220) 80 = .ok (.iload_n 1, 1) := by decide +kernel
theorem d220_81 : decode (xcode 220) 81 = .ok (.invokevirtual 389, 3) := by decide +kernel
theorem d220_84 : decode (xcode 220) 84 = .ok (.aload_n 0, 1) := by decide +kernel
theorem d220_85 : decode (xcode 220) 85 = .ok (.getfield 52, 3) := by decide +kernel
theorem d220_88 : decode (xcode 220) 88 = .ok (.iload_n 1, 1) := by decide +kernel
theorem d220_89 : decode (xcode 220) 89 = .ok (.iconst (-1), 1) := by decide +kernel
theorem d220_90 : decode (xcode 220) 90 = .ok (.iastore, 1) := by decide +kernel
theorem d220_91 : decode (xcode 220) 91 = .ok (.goto (-63), 3) := by decide +kernel
theorem d220_94 : decode (xcode 220) 94 = .ok (.aload_n 0, 1) := by decide +kernel
theorem d220_95 : decode (xcode 220) 95 = .ok (.invokevirtual 369, 3) := by decide +kernel
theorem d220_98 : decode (xcode 220) 98 = .ok (.return_, 1) := by decide +kernel
noncomputable def f_M_findsOrder_b94 (h : xH) : Option xH :=
  (f_M_laysBack h).bind fun h11 =>
  some (h11)
set_option maxHeartbeats 4000000 in
set_option maxRecDepth 100000 in
theorem f_M_findsOrder_b94_ok {g : xG} {l : Launch} {d : Nat} {h : xH} {o : xH} {R : Option xV} {H' : xH} (hD : 5 ≤ d) (hf : f_M_findsOrder_b94 h = some o) (K0 : ∀ (h1 : xH), o = h1 → R = none ∧ H' = h1) : xEv g l d 220 94 [(0, xr 12 (some 0))] [] h R H' := by
  unfold f_M_findsOrder_b94 at hf
  refine xs_aload_n d220_94 rfl ?_
  obtain ⟨h11, hc10, hf⟩ := lk_b hf
  refine xe_callv0 (as := []) (st := []) (h2 := h11) (d2 := d - 1) d220_95 ky220 ml254 st213 (by decide) cn213 rfl na213 (Nat.le_of_ble_eq_true rfl) (by omega) (f_M_laysBack_ok (by omega) hc10) ?_
  obtain ⟨eR, eH⟩ := K0 _ (Option.some.inj hf).symm
  subst eR; subst eH
  exact xs_vret d220_98 rt220
noncomputable def f_M_findsOrder_s28 (v1 : Int32) (h : xH) : Option ((Int32 × xH) ⊕ xH) :=
  if v1 < (0 : Int32) then (
  xup (f_M_findsOrder_b94 h)) else (
  if xib v1 9 then (
  if xib v1 9 then (
  xlet (xsA h 59 0 (upd (h.2.2.2.1 59 0) (v1).toNatClampNeg ((h.2.2.2.1 59 0 (v1).toNatClampNeg) + (1 : Int32)))) fun h14 =>
  if xib v1 9 then (
  if (h14.2.2.2.1 59 0 (v1).toNatClampNeg) < (h14.2.2.2.1 56 0 ((3 : Int32)).toNatClampNeg) then (
  (f_M_areLifted (v1 + (1 : Int32)) h14).bind fun q19 =>
  if q19.1 = (0 : Int32) then (
  some (Sum.inl (v1, q19.2))) else (
  xlet (v1 + (1 : Int32)) fun v1_21 =>
  (f_M_weighsRow v1_21 q19.2).bind fun h24 =>
  if xib v1_21 9 then (
  xlet (xsA h24 59 0 (upd (h24.2.2.2.1 59 0) (v1_21).toNatClampNeg (-1 : Int32))) fun h26 =>
  some (Sum.inl (v1_21, h26))) else none)) else (
  xlet (v1 + (-1 : Int32)) fun v1_27 =>
  some (Sum.inl (v1_27, h14)))) else none) else none) else none)
set_option maxHeartbeats 4000000 in
set_option maxRecDepth 100000 in
theorem f_M_findsOrder_s28_ok {g : xG} {l : Launch} {d : Nat} {v1 : Int32} {h : xH} {o : ((Int32 × xH) ⊕ xH)} {R : Option xV} {H' : xH} (hD : 5 ≤ d) (hf : f_M_findsOrder_s28 v1 h = some o) (K1 : ∀ (w1 : Int32) (h1 : xH), o = Sum.inl (w1, h1) → xEv g l d 220 28 [(0, xr 12 (some 0)), (1, xi w1)] [] h1 R H') (K0 : ∀ (h1 : xH), o = Sum.inr (h1) → R = none ∧ H' = h1) : xEv g l d 220 28 [(0, xr 12 (some 0)), (1, xi v1)] [] h R H' := by
  unfold f_M_findsOrder_s28 at hf
  refine xs_iload_n d220_28 rfl ?_
  rcases lk_if hf with ⟨hc8, hf⟩ | ⟨hc8, hf⟩
  · refine xs_if_lt (tgt := 94) d220_29 (by decide) (fun _ => ?_) (fun hn => absurd hc8 hn)
    refine xs_pick [0] rfl ?_
    obtain ⟨x0, hf, ex0⟩ := lk_up hf
    exact f_M_findsOrder_b94_ok hD hf (fun u0 e => K0 u0 (ex0.trans (congrArg Sum.inr e)))
  · refine xs_if_lt (tgt := 94) d220_29 (by decide) (fun hp => absurd hp hc8) (fun _ => ?_)
    refine xs_aload_n d220_32 rfl ?_
    refine xe_getc (j := 0) d220_33 ky220 fl187 fk12_26 rfl ?_
    refine xs_iload_n d220_36 rfl ?_
    refine xs_dup2 d220_37 rfl rfl ?_
    obtain ⟨hin12, hf⟩ := lk_g hf
    refine xe_iald d220_38 (by decide) ak59 hin12 ?_
    refine xs_iconst (v := 1) d220_39 (by decide) ?_
    refine xs_iadd d220_40 ?_
    obtain ⟨hin13, hf⟩ := lk_g hf
    obtain ⟨h14, eh14, hf⟩ := lk_let hf
    refine xe_iast d220_41 (by decide) ak59 hin13  eh14 ?_
    refine xs_aload_n d220_42 rfl ?_
    refine xe_getc (j := 0) d220_43 ky220 fl187 fk12_26 rfl ?_
    refine xs_iload_n d220_46 rfl ?_
    obtain ⟨hin15, hf⟩ := lk_g hf
    refine xe_iald d220_47 (by decide) ak59 hin15 ?_
    refine xs_aload_n d220_48 rfl ?_
    refine xe_getc (j := 0) d220_49 ky220 fl181 fk12_20 rfl ?_
    refine xs_iconst (v := 3) d220_52 (by decide) ?_
    refine xe_iald d220_53 (by decide) ak56 (show xib (3 : Int32) 101 by decide) ?_
    rcases lk_if hf with ⟨hc16, hf⟩ | ⟨hc16, hf⟩
    · refine xs_icmp_lt (tgt := 63) d220_54 (by decide) (fun _ => ?_) (fun hn => absurd hc16 hn)
      refine xs_aload_n d220_63 rfl ?_
      refine xs_iload_n d220_64 rfl ?_
      refine xs_iconst (v := 1) d220_65 (by decide) ?_
      refine xs_iadd d220_66 ?_
      obtain ⟨q19, hc18, hf⟩ := lk_b hf
      refine xe_callv1 (as := [xi (v1 + (1 : Int32))]) (st := []) (h2 := q19.2) (d2 := d - 1) d220_67 ky220 ml259 st217 (by decide) cn217 rfl na217 (Nat.le_of_ble_eq_true rfl) (by omega) (f_M_areLifted_ok (by omega) hc18) ?_
      rcases lk_if hf with ⟨hc20, hf⟩ | ⟨hc20, hf⟩
      · refine xs_if_ne (tgt := 76) d220_70 (by decide) (fun _ => ?_) (fun hn => absurd hc20 hn)
        refine xs_goto (tgt := 28) d220_73 (by decide) ?_
        exact K1 _ _ (Option.some.inj hf).symm
      · refine xs_if_ne (tgt := 76) d220_70 (by decide) (fun hp => absurd hp hc20) (fun _ => ?_)
        obtain ⟨v1_21, ev1_21, hf⟩ := lk_let hf
        refine xe_iinc (v := v1_21) (b := 1) (ls2 := [(0, xr 12 (some 0)), (1, xi v1_21)]) d220_76 mx220 (by decide) rfl (by decide) ev1_21 rfl ?_
        refine xs_aload_n d220_79 rfl ?_
        refine xs_iload_n d220_80 rfl ?_
        obtain ⟨h24, hc23, hf⟩ := lk_b hf
        refine xe_callv0 (as := [xi v1_21]) (st := []) (h2 := h24) (d2 := d - 1) d220_81 ky220 ml260 st219 (by decide) cn219 rfl na219 (Nat.le_of_ble_eq_true rfl) (by omega) (f_M_weighsRow_ok (by omega) hc23) ?_
        refine xs_aload_n d220_84 rfl ?_
        refine xe_getc (j := 0) d220_85 ky220 fl187 fk12_26 rfl ?_
        refine xs_iload_n d220_88 rfl ?_
        refine xs_iconst (v := -1) d220_89 (by decide) ?_
        obtain ⟨hin25, hf⟩ := lk_g hf
        obtain ⟨h26, eh26, hf⟩ := lk_let hf
        refine xe_iast d220_90 (by decide) ak59 hin25  eh26 ?_
        refine xs_goto (tgt := 28) d220_91 (by decide) ?_
        exact K1 _ _ (Option.some.inj hf).symm
    · refine xs_icmp_lt (tgt := 63) d220_54 (by decide) (fun hp => absurd hp hc16) (fun _ => ?_)
      obtain ⟨v1_27, ev1_27, hf⟩ := lk_let hf
      refine xe_iinc (v := v1_27) (b := -1) (ls2 := [(0, xr 12 (some 0)), (1, xi v1_27)]) d220_57 mx220 (by decide) rfl (by decide) ev1_27 rfl ?_
      refine xs_goto (tgt := 28) d220_60 (by decide) ?_
      exact K1 _ _ (Option.some.inj hf).symm
noncomputable def f_M_findsOrder_l28 (v1 : Int32) (h : xH) : Option xH :=
  whl (fun s => f_M_findsOrder_s28 s.1 s.2) (v1, h)
theorem f_M_findsOrder_l28_ok {g : xG} {l : Launch} {d : Nat} {v1 : Int32} {h : xH} {o : xH} {R : Option xV} {H' : xH} (hD : 5 ≤ d) (hf : f_M_findsOrder_l28 v1 h = some o) (K0 : ∀ (h1 : xH), o = h1 → R = none ∧ H' = h1) : xEv g l d 220 28 [(0, xr 12 (some 0)), (1, xi v1)] [] h R H' := by
  obtain ⟨n, hn⟩ := whl_iff.mp hf
  clear hf
  induction n generalizing v1 h with
  | zero => cases hn
  | succ n ih =>
    obtain ⟨o2, hs, hn⟩ := lk_b (show (f_M_findsOrder_s28 v1 h).bind (fun o => Sum.elim (itn _ n) some o) = some o from hn)
    exact f_M_findsOrder_s28_ok hD hs (fun u0 u1 e => ih (by rw [e] at hn; exact hn)) (fun u0 e => K0 u0 (by rw [e] at hn; exact (Option.some.inj hn).symm))
noncomputable def f_M_findsOrder_e (h : xH) : Option xH :=
  xlet (xsI h 12 29 0 (0 : Int32)) fun h1 =>
  xlet (xsI h1 12 30 0 (0 : Int32)) fun h2 =>
  xlet (xsI h2 12 28 0 (0 : Int32)) fun h3 =>
  (f_M_keeps h3).bind fun h6 =>
  xlet (xsA h6 59 0 (upd (h6.2.2.2.1 59 0) ((0 : Int32)).toNatClampNeg (-1 : Int32))) fun h7 =>
  f_M_findsOrder_l28 (0 : Int32) h7
set_option maxHeartbeats 4000000 in
set_option maxRecDepth 100000 in
theorem f_M_findsOrder_e_ok {g : xG} {l : Launch} {d : Nat} {h : xH} {o : xH} {R : Option xV} {H' : xH} (hD : 5 ≤ d) (hf : f_M_findsOrder_e h = some o) (K0 : ∀ (h1 : xH), o = h1 → R = none ∧ H' = h1) : xEv g l d 220 0 [(0, xr 12 (some 0))] [] h R H' := by
  unfold f_M_findsOrder_e at hf
  refine xs_aload_n d220_0 rfl ?_
  refine xs_iconst (v := 0) d220_1 (by decide) ?_
  obtain ⟨h1, eh1, hf⟩ := lk_let hf
  refine xe_puti d220_2 ky220 fl190 fk12_29 ft12_29 eh1 ?_
  refine xs_aload_n d220_5 rfl ?_
  refine xs_iconst (v := 0) d220_6 (by decide) ?_
  obtain ⟨h2, eh2, hf⟩ := lk_let hf
  refine xe_puti d220_7 ky220 fl191 fk12_30 ft12_30 eh2 ?_
  refine xs_aload_n d220_10 rfl ?_
  refine xs_iconst (v := 0) d220_11 (by decide) ?_
  obtain ⟨h3, eh3, hf⟩ := lk_let hf
  refine xe_puti d220_12 ky220 fl189 fk12_28 ft12_28 eh3 ?_
  refine xs_aload_n d220_15 rfl ?_
  obtain ⟨h6, hc5, hf⟩ := lk_b hf
  refine xe_callv0 (as := []) (st := []) (h2 := h6) (d2 := d - 1) d220_16 ky220 ml252 st212 (by decide) cn212 rfl na212 (Nat.le_of_ble_eq_true rfl) (by omega) (f_M_keeps_ok (by omega) hc5) ?_
  refine xs_iconst (v := 0) d220_19 (by decide) ?_
  refine xe_istore_n (v := (0 : Int32)) (ls2 := [(0, xr 12 (some 0)), (1, xi (0 : Int32))]) d220_20 mx220 (by decide) rfl rfl ?_
  refine xs_aload_n d220_21 rfl ?_
  refine xe_getc (j := 0) d220_22 ky220 fl187 fk12_26 rfl ?_
  refine xs_iconst (v := 0) d220_25 (by decide) ?_
  refine xs_iconst (v := -1) d220_26 (by decide) ?_
  obtain ⟨h7, eh7, hf⟩ := lk_let hf
  refine xe_iast d220_27 (by decide) ak59 (show xib (0 : Int32) 9 by decide)  eh7 ?_
  exact f_M_findsOrder_l28_ok hD hf K0
noncomputable def f_M_findsOrder (h : xH) : Option xH := f_M_findsOrder_e h
theorem f_M_findsOrder_ok {g : xG} {l : Launch} {d : Nat} {h : xH} {h1 : xH} (hD : 5 ≤ d) (hf : f_M_findsOrder h = some h1) : xC g l d 220 [xr 12 (some 0)] h none h1 :=
  xC_of2 (by decide) mx220 (Nat.le_of_ble_eq_true rfl) (f_M_findsOrder_e_ok hD hf (fun _ e => ⟨rfl, e⟩))
theorem d221_0 : decode (xcode 221) 0 = .ok (.aload_n 0, 1) := by decide +kernel
theorem d221_1 : decode (xcode 221) 1 = .ok (.invokevirtual 349, 3) := by decide +kernel
theorem d221_4 : decode (xcode 221) 4 = .ok (.ifCond .eq 17, 3) := by decide +kernel
theorem d221_7 : decode (xcode 221) 7 = .ok (.iload_n 1, 1) := by decide +kernel
theorem d221_8 : decode (xcode 221) 8 = .ok (.i2l, 1) := by decide +kernel
theorem d221_9 : decode (xcode 221) 9 = .ok (.ldc2_w 392, 3) := by decide +kernel
theorem d221_12 : decode (xcode 221) 12 = .ok (.ldc2_w 394, 3) := by decide +kernel
theorem d221_15 : decode (xcode 221) 15 = .ok (.invokestatic 124, 3) := by decide +kernel
theorem d221_18 : decode (xcode 221) 18 = .ok (.ifCond .ne 6, 3) := by decide +kernel
theorem d221_21 : decode (xcode 221) 21 = .ok (.bipush (-3), 2) := by decide +kernel
theorem d221_23 : decode (xcode 221) 23 = .ok (.ireturn, 1) := by decide +kernel
theorem d221_24 : decode (xcode 221) 24 = .ok (.aload_n 0, 1) := by decide +kernel
theorem d221_25 : decode (xcode 221) 25 = .ok (.invokevirtual 396, 3) := by decide +kernel
theorem d221_28 : decode (xcode 221) 28 = .ok (.iload_n 1, 1) := by decide +kernel
theorem d221_29 : decode (xcode 221) 29 = .ok (.ifCond .ge 20, 3) := by decide +kernel
theorem d221_32 : decode (xcode 221) 32 = .ok (.iload_n 1, 1) := by decide +kernel
theorem d221_33 : decode (xcode 221) 33 = .ok (.iconst (-1), 1) := by decide +kernel
theorem d221_34 : decode (xcode 221) 34 = .ok (.if_icmp .ne 10, 3) := by decide +kernel
theorem d221_37 : decode (xcode 221) 37 = .ok (.aload_n 0, 1) := by decide +kernel
theorem d221_38 : decode (xcode 221) 38 = .ok (.getfield 377, 3) := by decide +kernel
theorem d221_41 : decode (xcode 221) 41 = .ok (.goto 7, 3) := by decide +kernel
theorem d221_44 : decode (xcode 221) 44 = .ok (.aload_n 0, 1) := by decide +kernel
theorem d221_45 : decode (xcode 221) 45 = .ok (.getfield 380, 3) := by decide +kernel
theorem d221_48 : decode (xcode 221) 48 = .ok (.ireturn, 1) := by decide +kernel
theorem d221_49 : decode (xcode 221) 49 = .ok (.iload_n 1, 1) := by decide +kernel
theorem d221_50 : decode (xcode 221) 50 = .ok (.aload_n 0, 1) := by decide +kernel
theorem d221_51 : decode (xcode 221) 51 = .ok (.getfield 383, 3) := by decide +kernel
theorem d221_54 : decode (xcode 221) 54 = .ok (.if_icmp .ge 12, 3) := by decide +kernel
theorem d221_57 : decode (xcode 221) 57 = .ok (.aload_n 0, 1) := by decide +kernel
theorem d221_58 : decode (xcode 221) 58 = .ok (.getfield 55, 3) := by decide +kernel
theorem d221_61 : decode (xcode 221) 61 = .ok (.iload_n 1, 1) := by decide +kernel
theorem d221_62 : decode (xcode 221) 62 = .ok (.iaload, 1) := by decide +kernel
theorem d221_63 : decode (xcode 221) 63 = .ok (.goto 5, 3) := by decide +kernel
theorem d221_66 : decode (xcode 221) 66 = .ok (.bipush (-2), 2) := by decide +kernel
theorem d221_68 : decode (xcode 221) 68 = .ok (.ireturn, 1) := by decide +kernel
noncomputable def f_M_order_e (v1 : Int32) (h : xH) : Option (Int32 × xH) :=
  (f_M_isTrug h).bind fun r1 =>
  if r1 = (0 : Int32) then (
  some (((-3 : Int32), h))) else (
  (f_M_in ((v1).toInt64) (-2 : Int64) (7 : Int64) h).bind fun r4 =>
  if r4 = (0 : Int32) then (
  some (((-3 : Int32), h))) else (
  (f_M_findsOrder h).bind fun h9 =>
  if (0 : Int32) ≤ v1 then (
  if (h9.1 12 28 0) ≤ v1 then (
  some (((-2 : Int32), h9))) else (
  if xib v1 8 then (
  some ((h9.2.2.2.1 60 0 (v1).toNatClampNeg, h9))) else none)) else (
  if v1 = (-1 : Int32) then (
  some ((h9.1 12 29 0, h9))) else (
  some ((h9.1 12 30 0, h9))))))
set_option maxHeartbeats 4000000 in
set_option maxRecDepth 100000 in
theorem f_M_order_e_ok {g : xG} {l : Launch} {d : Nat} {v1 : Int32} {h : xH} {o : (Int32 × xH)} {R : Option xV} {H' : xH} (hD : 6 ≤ d) (hf : f_M_order_e v1 h = some o) (K0 : ∀ (a : Int32) (h1 : xH), o = (a, h1) → R = some (xi a) ∧ H' = h1) : xEv g l d 221 0 [(0, xr 12 (some 0)), (1, xi v1)] [] h R H' := by
  unfold f_M_order_e at hf
  refine xs_aload_n d221_0 rfl ?_
  obtain ⟨r1, hc2, hf⟩ := lk_b hf
  refine xe_callv1 (as := []) (st := []) (h2 := h) (d2 := d - 1) d221_1 ky221 ml225 st184 (by decide) cn184 rfl na184 (Nat.le_of_ble_eq_true rfl) (by omega) (f_M_isTrug_ok (by omega) hc2) ?_
  rcases lk_if hf with ⟨hc3, hf⟩ | ⟨hc3, hf⟩
  · refine xs_if_eq (tgt := 21) d221_4 (by decide) (fun _ => ?_) (fun hn => absurd hc3 hn)
    refine xs_bipush (v := -3) d221_21 (by decide) ?_
    obtain ⟨eR, eH⟩ := K0 _ _ (Option.some.inj hf).symm
    subst eR; subst eH
    exact xs_iret d221_23 rt221
  · refine xs_if_eq (tgt := 21) d221_4 (by decide) (fun hp => absurd hp hc3) (fun _ => ?_)
    refine xs_iload_n d221_7 rfl ?_
    refine xs_i2l d221_8 ?_
    refine xs_ldc2 (v := -2) d221_9 cl12_392 ?_
    refine xs_ldc2 (v := 7) d221_12 cl12_394 ?_
    obtain ⟨r4, hc5, hf⟩ := lk_b hf
    refine xe_calls1 (as := [xl ((v1).toInt64), xl (-2 : Int64), xl (7 : Int64)]) (st := []) (h2 := h) (d2 := d - 1) d221_15 ky221 ml196 st139 rfl na139 (Nat.le_of_ble_eq_true rfl) (by omega) (f_M_in_ok (by omega) hc5) ?_
    rcases lk_if hf with ⟨hc6, hf⟩ | ⟨hc6, hf⟩
    · refine xs_if_ne (tgt := 24) d221_18 (by decide) (fun _ => ?_) (fun hn => absurd hc6 hn)
      refine xs_bipush (v := -3) d221_21 (by decide) ?_
      obtain ⟨eR, eH⟩ := K0 _ _ (Option.some.inj hf).symm
      subst eR; subst eH
      exact xs_iret d221_23 rt221
    · refine xs_if_ne (tgt := 24) d221_18 (by decide) (fun hp => absurd hp hc6) (fun _ => ?_)
      refine xs_aload_n d221_24 rfl ?_
      obtain ⟨h9, hc8, hf⟩ := lk_b hf
      refine xe_callv0 (as := []) (st := []) (h2 := h9) (d2 := d - 1) d221_25 ky221 ml258 st220 (by decide) cn220 rfl na220 (Nat.le_of_ble_eq_true rfl) (by omega) (f_M_findsOrder_ok (by omega) hc8) ?_
      refine xs_iload_n d221_28 rfl ?_
      rcases lk_if hf with ⟨hc10, hf⟩ | ⟨hc10, hf⟩
      · refine xs_if_ge (tgt := 49) d221_29 (by decide) (fun _ => ?_) (fun hn => absurd hc10 hn)
        refine xs_iload_n d221_49 rfl ?_
        refine xs_aload_n d221_50 rfl ?_
        refine xe_geti d221_51 ky221 fl189 fk12_28 ?_
        rcases lk_if hf with ⟨hc11, hf⟩ | ⟨hc11, hf⟩
        · refine xs_icmp_ge (tgt := 66) d221_54 (by decide) (fun _ => ?_) (fun hn => absurd hc11 hn)
          refine xs_bipush (v := -2) d221_66 (by decide) ?_
          obtain ⟨eR, eH⟩ := K0 _ _ (Option.some.inj hf).symm
          subst eR; subst eH
          exact xs_iret d221_68 rt221
        · refine xs_icmp_ge (tgt := 66) d221_54 (by decide) (fun hp => absurd hp hc11) (fun _ => ?_)
          refine xs_aload_n d221_57 rfl ?_
          refine xe_getc (j := 0) d221_58 ky221 fl188 fk12_27 rfl ?_
          refine xs_iload_n d221_61 rfl ?_
          obtain ⟨hin12, hf⟩ := lk_g hf
          refine xe_iald d221_62 (by decide) ak60 hin12 ?_
          refine xs_goto (tgt := 68) d221_63 (by decide) ?_
          obtain ⟨eR, eH⟩ := K0 _ _ (Option.some.inj hf).symm
          subst eR; subst eH
          exact xs_iret d221_68 rt221
      · refine xs_if_ge (tgt := 49) d221_29 (by decide) (fun hp => absurd hp hc10) (fun _ => ?_)
        refine xs_iload_n d221_32 rfl ?_
        refine xs_iconst (v := -1) d221_33 (by decide) ?_
        rcases lk_if hf with ⟨hc13, hf⟩ | ⟨hc13, hf⟩
        · refine xs_icmp_ne (tgt := 44) d221_34 (by decide) (fun _ => ?_) (fun hn => absurd hc13 hn)
          refine xs_aload_n d221_37 rfl ?_
          refine xe_geti d221_38 ky221 fl190 fk12_29 ?_
          refine xs_goto (tgt := 48) d221_41 (by decide) ?_
          obtain ⟨eR, eH⟩ := K0 _ _ (Option.some.inj hf).symm
          subst eR; subst eH
          exact xs_iret d221_48 rt221
        · refine xs_icmp_ne (tgt := 44) d221_34 (by decide) (fun hp => absurd hp hc13) (fun _ => ?_)
          refine xs_aload_n d221_44 rfl ?_
          refine xe_geti d221_45 ky221 fl191 fk12_30 ?_
          obtain ⟨eR, eH⟩ := K0 _ _ (Option.some.inj hf).symm
          subst eR; subst eH
          exact xs_iret d221_48 rt221
noncomputable def f_M_order (v1 : Int32) (h : xH) : Option (Int32 × xH) := f_M_order_e v1 h
theorem f_M_order_ok {g : xG} {l : Launch} {d : Nat} {v1 : Int32} {h : xH} {r : Int32} {h1 : xH} (hD : 6 ≤ d) (hf : f_M_order v1 h = some (r, h1)) : xC g l d 221 [xr 12 (some 0), xi v1] h (some (xi r)) h1 :=
  xC_of2 (by decide) mx221 (Nat.le_of_ble_eq_true rfl) (f_M_order_e_ok hD hf (fun _ _ e => by cases e; exact ⟨rfl, rfl⟩))
theorem d222_0 : decode (xcode 222) 0 = .ok (.aload_n 0, 1) := by decide +kernel
theorem d222_1 : decode (xcode 222) 1 = .ok (.aload_n 0, 1) := by decide +kernel
theorem d222_2 : decode (xcode 222) 2 = .ok (.getfield 52, 3) := by decide +kernel
theorem d222_5 : decode (xcode 222) 5 = .ok (.iload_n 1, 1) := by decide +kernel
theorem d222_6 : decode (xcode 222) 6 = .ok (.iaload, 1) := by decide +kernel
theorem d222_7 : decode (xcode 222) 7 = .ok (.invokevirtual 293, 3) := by decide +kernel
theorem d222_10 : decode (xcode 222) 10 = .ok (.ifCond .ne 5, 3) := by decide +kernel
theorem d222_13 : decode (xcode 222) 13 = .ok (.iconst 0, 1) := by decide +kernel
theorem d222_14 : decode (xcode 222) 14 = .ok (.ireturn, 1) := by decide +kernel
theorem d222_15 : decode (xcode 222) 15 = .ok (.iconst 0, 1) := by decide +kernel
theorem d222_16 : decode (xcode 222) 16 = .ok (.istore_n 2, 1) := by decide +kernel
theorem d222_17 : decode (xcode 222) 17 = .ok (.iload_n 2, 1) := by decide +kernel
theorem d222_18 : decode (xcode 222) 18 = .ok (.iload_n 1, 1) := by decide +kernel
theorem d222_19 : decode (xcode 222) 19 = .ok (.if_icmp .ge 26, 3) := by decide +kernel
theorem d222_22 : decode (xcode 222) 22 = .ok (.aload_n 0, 1) := by decide +kernel
theorem d222_23 : decode (xcode 222) 23 = .ok (.getfield 52, 3) := by decide +kernel
theorem d222_26 : decode (xcode 222) 26 = .ok (.iload_n 2, 1) := by decide +kernel
theorem d222_27 : decode (xcode 222) 27 = .ok (.iaload, 1) := by decide +kernel
theorem d222_28 : decode (xcode 222) 28 = .ok (.aload_n 0, 1) := by decide +kernel
theorem d222_29 : decode (xcode 222) 29 = .ok (.getfield 52, 3) := by decide +kernel
theorem d222_32 : decode (xcode 222) 32 = .ok (.iload_n 1, 1) := by decide +kernel
theorem d222_33 : decode (xcode 222) 33 = .ok (.iaload, 1) := by decide +kernel
theorem d222_34 : decode (xcode 222) 34 = .ok (.if_icmp .ne 5, 3) := by decide +kernel
theorem d222_37 : decode (xcode 222) 37 = .ok (.iconst 0, 1) := by decide +kernel
theorem d222_38 : decode (xcode 222) 38 = .ok (.ireturn, 1) := by decide +kernel
theorem d222_39 : decode (xcode 222) 39 = .ok (.iinc 2 1, 3) := by decide +kernel
theorem d222_42 : decode (xcode 222) 42 = .ok (.goto (-25), 3) := by decide +kernel
theorem d222_45 : decode (xcode 222) 45 = .ok (.iload_n 1, 1) := by decide +kernel
theorem d222_46 : decode (xcode 222) 46 = .ok (.ifCond .eq 31, 3) := by decide +kernel
theorem d222_49 : decode (xcode 222) 49 = .ok (.aload_n 0, 1) := by decide +kernel
theorem d222_50 : decode (xcode 222) 50 = .ok (.getfield 39, 3) := by decide +kernel
theorem d222_53 : decode (xcode 222) 53 = .ok (.bipush 36, 2) := by decide +kernel
theorem d222_55 : decode (xcode 222) 55 = .ok (.aload_n 0, 1) := by decide +kernel
theorem d222_56 : decode (xcode 222) 56 = .ok (.getfield 52, 3) := by decide +kernel
theorem d222_59 : decode (xcode 222) 59 = .ok (.iload_n 1, 1) := by decide +kernel
theorem d222_60 : decode (xcode 222) 60 = .ok (.iaload, 1) := by decide +kernel
theorem d222_61 : decode (xcode 222) 61 = .ok (.iadd, 1) := by decide +kernel
theorem d222_62 : decode (xcode 222) 62 = .ok (.iaload, 1) := by decide +kernel
theorem d222_63 : decode (xcode 222) 63 = .ok (.aload_n 0, 1) := by decide +kernel
theorem d222_64 : decode (xcode 222) 64 = .ok (.getfield 52, 3) := by decide +kernel
theorem d222_67 : decode (xcode 222) 67 = .ok (.iload_n 1, 1) := by decide +kernel
theorem d222_68 : decode (xcode 222) 68 = .ok (.iconst 1, 1) := by decide +kernel
theorem d222_69 : decode (xcode 222) 69 = .ok (.isub, 1) := by decide +kernel
theorem d222_70 : decode (xcode 222) 70 = .ok (.iaload, 1) := by decide +kernel
theorem d222_71 : decode (xcode 222) 71 = .ok (.invokestatic 301, 3) := by decide +kernel
theorem d222_74 : decode (xcode 222) 74 = .ok (.ifCond .eq 7, 3) := by decide +kernel
theorem d222_77 : decode (xcode 222) 77 = .ok (.iconst 1, 1) := by decide +kernel
theorem d222_78 : decode (xcode 222) 78 = .ok (.goto 4, 3) := by decide +kernel
theorem d222_81 : decode (xcode 222) 81 = .ok (.iconst 0, 1) := by decide +kernel
theorem d222_82 : decode (xcode 222) 82 = .ok (.ireturn, 1) := by decide +kernel
noncomputable def f_M_isLink_b45 (v1 : Int32) (h : xH) : Option Int32 :=
  if v1 = (0 : Int32) then (
  some ((1 : Int32))) else (
  if xib v1 9 then (
  if xib ((36 : Int32) + (h.2.2.2.1 59 0 (v1).toNatClampNeg)) 101 then (
  if xib (v1 - (1 : Int32)) 9 then (
  (f_M_isOf (h.2.2.2.1 56 0 ((36 : Int32) + (h.2.2.2.1 59 0 (v1).toNatClampNeg)).toNatClampNeg) (h.2.2.2.1 59 0 (v1 - (1 : Int32)).toNatClampNeg) h).bind fun r10 =>
  if r10 = (0 : Int32) then (
  some ((0 : Int32))) else (
  some ((1 : Int32)))) else none) else none) else none)
set_option maxHeartbeats 4000000 in
set_option maxRecDepth 100000 in
theorem f_M_isLink_b45_ok {g : xG} {l : Launch} {d : Nat} {v1 : Int32} {h : xH} {o : Int32} {R : Option xV} (hD : 2 ≤ d) (hf : f_M_isLink_b45 v1 h = some o) (K0 : ∀ (a : Int32), o = a → R = some (xi a)) : xEv g l d 222 45 [(0, xr 12 (some 0)), (1, xi v1)] [] h R h := by
  unfold f_M_isLink_b45 at hf
  refine xs_iload_n d222_45 rfl ?_
  rcases lk_if hf with ⟨hc6, hf⟩ | ⟨hc6, hf⟩
  · refine xs_if_eq (tgt := 77) d222_46 (by decide) (fun _ => ?_) (fun hn => absurd hc6 hn)
    refine xs_iconst (v := 1) d222_77 (by decide) ?_
    refine xs_goto (tgt := 82) d222_78 (by decide) ?_
    obtain eR := K0 _ (Option.some.inj hf).symm
    subst eR
    exact xe_zret d222_82 (Or.inr rfl) rt222
  · refine xs_if_eq (tgt := 77) d222_46 (by decide) (fun hp => absurd hp hc6) (fun _ => ?_)
    refine xs_aload_n d222_49 rfl ?_
    refine xe_getc (j := 0) d222_50 ky222 fl181 fk12_20 rfl ?_
    refine xs_bipush (v := 36) d222_53 (by decide) ?_
    refine xs_aload_n d222_55 rfl ?_
    refine xe_getc (j := 0) d222_56 ky222 fl187 fk12_26 rfl ?_
    refine xs_iload_n d222_59 rfl ?_
    obtain ⟨hin7, hf⟩ := lk_g hf
    refine xe_iald d222_60 (by decide) ak59 hin7 ?_
    refine xs_iadd d222_61 ?_
    obtain ⟨hin8, hf⟩ := lk_g hf
    refine xe_iald d222_62 (by decide) ak56 hin8 ?_
    refine xs_aload_n d222_63 rfl ?_
    refine xe_getc (j := 0) d222_64 ky222 fl187 fk12_26 rfl ?_
    refine xs_iload_n d222_67 rfl ?_
    refine xs_iconst (v := 1) d222_68 (by decide) ?_
    refine xs_isub d222_69 ?_
    obtain ⟨hin9, hf⟩ := lk_g hf
    refine xe_iald d222_70 (by decide) ak59 hin9 ?_
    obtain ⟨r10, hc11, hf⟩ := lk_b hf
    refine xe_calls1 (as := [xi (h.2.2.2.1 56 0 ((36 : Int32) + (h.2.2.2.1 59 0 (v1).toNatClampNeg)).toNatClampNeg), xi (h.2.2.2.1 59 0 (v1 - (1 : Int32)).toNatClampNeg)]) (st := []) (h2 := h) (d2 := d - 1) d222_71 ky222 ml233 st140 rfl na140 (Nat.le_of_ble_eq_true rfl) (by omega) (f_M_isOf_ok (by omega) hc11) ?_
    rcases lk_if hf with ⟨hc12, hf⟩ | ⟨hc12, hf⟩
    · refine xs_if_eq (tgt := 81) d222_74 (by decide) (fun _ => ?_) (fun hn => absurd hc12 hn)
      refine xs_iconst (v := 0) d222_81 (by decide) ?_
      obtain eR := K0 _ (Option.some.inj hf).symm
      subst eR
      exact xe_zret d222_82 (Or.inl rfl) rt222
    · refine xs_if_eq (tgt := 81) d222_74 (by decide) (fun hp => absurd hp hc12) (fun _ => ?_)
      refine xs_iconst (v := 1) d222_77 (by decide) ?_
      refine xs_goto (tgt := 82) d222_78 (by decide) ?_
      obtain eR := K0 _ (Option.some.inj hf).symm
      subst eR
      exact xe_zret d222_82 (Or.inr rfl) rt222
noncomputable def f_M_isLink_s17 (v1 : Int32) (v2 : Int32) (h : xH) : Option ((Int32) ⊕ Int32) :=
  if v1 ≤ v2 then (
  xup (f_M_isLink_b45 v1 h)) else (
  if xib v2 9 then (
  if xib v1 9 then (
  if (h.2.2.2.1 59 0 (v2).toNatClampNeg) = (h.2.2.2.1 59 0 (v1).toNatClampNeg) then (
  some (Sum.inr ((0 : Int32)))) else (
  xlet (v2 + (1 : Int32)) fun v2_16 =>
  some (Sum.inl v2_16))) else none) else none)
set_option maxHeartbeats 4000000 in
set_option maxRecDepth 100000 in
theorem f_M_isLink_s17_ok {g : xG} {l : Launch} {d : Nat} {v1 : Int32} {v2 : Int32} {h : xH} {o : ((Int32) ⊕ Int32)} {R : Option xV} (hD : 2 ≤ d) (hf : f_M_isLink_s17 v1 v2 h = some o) (K1 : ∀ (w2 : Int32), o = Sum.inl w2 → xEv g l d 222 17 [(0, xr 12 (some 0)), (1, xi v1), (2, xi w2)] [] h R h) (K0 : ∀ (a : Int32), o = Sum.inr (a) → R = some (xi a)) : xEv g l d 222 17 [(0, xr 12 (some 0)), (1, xi v1), (2, xi v2)] [] h R h := by
  unfold f_M_isLink_s17 at hf
  refine xs_iload_n d222_17 rfl ?_
  refine xs_iload_n d222_18 rfl ?_
  rcases lk_if hf with ⟨hc5, hf⟩ | ⟨hc5, hf⟩
  · refine xs_icmp_ge (tgt := 45) d222_19 (by decide) (fun _ => ?_) (fun hn => absurd hc5 hn)
    refine xs_pick [0, 1] rfl ?_
    obtain ⟨x0, hf, ex0⟩ := lk_up hf
    exact f_M_isLink_b45_ok hD hf (fun u0 e => K0 u0 (ex0.trans (congrArg Sum.inr e)))
  · refine xs_icmp_ge (tgt := 45) d222_19 (by decide) (fun hp => absurd hp hc5) (fun _ => ?_)
    refine xs_aload_n d222_22 rfl ?_
    refine xe_getc (j := 0) d222_23 ky222 fl187 fk12_26 rfl ?_
    refine xs_iload_n d222_26 rfl ?_
    obtain ⟨hin13, hf⟩ := lk_g hf
    refine xe_iald d222_27 (by decide) ak59 hin13 ?_
    refine xs_aload_n d222_28 rfl ?_
    refine xe_getc (j := 0) d222_29 ky222 fl187 fk12_26 rfl ?_
    refine xs_iload_n d222_32 rfl ?_
    obtain ⟨hin14, hf⟩ := lk_g hf
    refine xe_iald d222_33 (by decide) ak59 hin14 ?_
    rcases lk_if hf with ⟨hc15, hf⟩ | ⟨hc15, hf⟩
    · refine xs_icmp_ne (tgt := 39) d222_34 (by decide) (fun _ => ?_) (fun hn => absurd hc15 hn)
      refine xs_iconst (v := 0) d222_37 (by decide) ?_
      obtain eR := K0 _ (Option.some.inj hf).symm
      subst eR
      exact xe_zret d222_38 (Or.inl rfl) rt222
    · refine xs_icmp_ne (tgt := 39) d222_34 (by decide) (fun hp => absurd hp hc15) (fun _ => ?_)
      obtain ⟨v2_16, ev2_16, hf⟩ := lk_let hf
      refine xe_iinc (v := v2_16) (b := 1) (ls2 := [(0, xr 12 (some 0)), (1, xi v1), (2, xi v2_16)]) d222_39 mx222 (by decide) rfl (by decide) ev2_16 rfl ?_
      refine xs_goto (tgt := 17) d222_42 (by decide) ?_
      exact K1 _ (Option.some.inj hf).symm
noncomputable def f_M_isLink_l17 (v1 : Int32) (v2 : Int32) (h : xH) : Option Int32 :=
  whl (fun s => f_M_isLink_s17 v1 s h) v2
theorem f_M_isLink_l17_ok {g : xG} {l : Launch} {d : Nat} {v1 : Int32} {v2 : Int32} {h : xH} {o : Int32} {R : Option xV} (hD : 2 ≤ d) (hf : f_M_isLink_l17 v1 v2 h = some o) (K0 : ∀ (a : Int32), o = a → R = some (xi a)) : xEv g l d 222 17 [(0, xr 12 (some 0)), (1, xi v1), (2, xi v2)] [] h R h := by
  obtain ⟨n, hn⟩ := whl_iff.mp hf
  clear hf
  induction n generalizing v2 with
  | zero => cases hn
  | succ n ih =>
    obtain ⟨o2, hs, hn⟩ := lk_b (show (f_M_isLink_s17 v1 v2 h).bind (fun o => Sum.elim (itn _ n) some o) = some o from hn)
    exact f_M_isLink_s17_ok hD hs (fun u0 e => ih (by rw [e] at hn; exact hn)) (fun u0 e => K0 u0 (by rw [e] at hn; exact (Option.some.inj hn).symm))
noncomputable def f_M_isLink_e (v1 : Int32) (h : xH) : Option Int32 :=
  if xib v1 9 then (
  (f_M_isInside_i (h.2.2.2.1 59 0 (v1).toNatClampNeg) h).bind fun r2 =>
  if r2 = (0 : Int32) then (
  some ((0 : Int32))) else (
  f_M_isLink_l17 v1 (0 : Int32) h)) else none
set_option maxHeartbeats 4000000 in
set_option maxRecDepth 100000 in
theorem f_M_isLink_e_ok {g : xG} {l : Launch} {d : Nat} {v1 : Int32} {h : xH} {o : Int32} {R : Option xV} (hD : 2 ≤ d) (hf : f_M_isLink_e v1 h = some o) (K0 : ∀ (a : Int32), o = a → R = some (xi a)) : xEv g l d 222 0 [(0, xr 12 (some 0)), (1, xi v1)] [] h R h := by
  unfold f_M_isLink_e at hf
  refine xs_aload_n d222_0 rfl ?_
  refine xs_aload_n d222_1 rfl ?_
  refine xe_getc (j := 0) d222_2 ky222 fl187 fk12_26 rfl ?_
  refine xs_iload_n d222_5 rfl ?_
  obtain ⟨hin1, hf⟩ := lk_g hf
  refine xe_iald d222_6 (by decide) ak59 hin1 ?_
  obtain ⟨r2, hc3, hf⟩ := lk_b hf
  refine xe_callv1 (as := [xi (h.2.2.2.1 59 0 (v1).toNatClampNeg)]) (st := []) (h2 := h) (d2 := d - 1) d222_7 ky222 ml230 st186 (by decide) cn186 rfl na186 (Nat.le_of_ble_eq_true rfl) (by omega) (f_M_isInside_i_ok (by omega) hc3) ?_
  rcases lk_if hf with ⟨hc4, hf⟩ | ⟨hc4, hf⟩
  · refine xs_if_ne (tgt := 15) d222_10 (by decide) (fun _ => ?_) (fun hn => absurd hc4 hn)
    refine xs_iconst (v := 0) d222_13 (by decide) ?_
    obtain eR := K0 _ (Option.some.inj hf).symm
    subst eR
    exact xe_zret d222_14 (Or.inl rfl) rt222
  · refine xs_if_ne (tgt := 15) d222_10 (by decide) (fun hp => absurd hp hc4) (fun _ => ?_)
    refine xs_iconst (v := 0) d222_15 (by decide) ?_
    refine xe_istore_n (v := (0 : Int32)) (ls2 := [(0, xr 12 (some 0)), (1, xi v1), (2, xi (0 : Int32))]) d222_16 mx222 (by decide) rfl rfl ?_
    exact f_M_isLink_l17_ok hD hf K0
noncomputable def f_M_isLink (v1 : Int32) (h : xH) : Option Int32 := f_M_isLink_e v1 h
theorem f_M_isLink_ok {g : xG} {l : Launch} {d : Nat} {v1 : Int32} {h : xH} {r : Int32} (hD : 2 ≤ d) (hf : f_M_isLink v1 h = some r) : xC g l d 222 [xr 12 (some 0), xi v1] h (some (xi r)) h :=
  xC_of2 (by decide) mx222 (Nat.le_of_ble_eq_true rfl) (f_M_isLink_e_ok hD hf (fun _ e => by rw [e]))
theorem d223_0 : decode (xcode 223) 0 = .ok (.aload_n 0, 1) := by decide +kernel
theorem d223_1 : decode (xcode 223) 1 = .ok (.invokevirtual 349, 3) := by decide +kernel
theorem d223_4 : decode (xcode 223) 4 = .ok (.ifCond .eq 13, 3) := by decide +kernel
theorem d223_7 : decode (xcode 223) 7 = .ok (.iload_n 1, 1) := by decide +kernel
theorem d223_8 : decode (xcode 223) 8 = .ok (.i2l, 1) := by decide +kernel
theorem d223_9 : decode (xcode 223) 9 = .ok (.lconst 0, 1) := by decide +kernel
theorem d223_10 : decode (xcode 223) 10 = .ok (.lconst 1, 1) := by decide +kernel
theorem d223_11 : decode (xcode 223) 11 = .ok (.invokestatic 124, 3) := by decide +kernel
theorem d223_14 : decode (xcode 223) 14 = .ok (.ifCond .ne 5, 3) := by decide +kernel
theorem d223_17 : decode (xcode 223) 17 = .ok (.iconst (-1), 1) := by decide +kernel
theorem d223_18 : decode (xcode 223) 18 = .ok (.ireturn, 1) := by decide +kernel
theorem d223_19 : decode (xcode 223) 19 = .ok (.iconst 0, 1) := by decide +kernel
theorem d223_20 : decode (xcode 223) 20 = .ok (.istore_n 2, 1) := by decide +kernel
theorem d223_21 : decode (xcode 223) 21 = .ok (.bipush (-2), 2) := by decide +kernel
theorem d223_23 : decode (xcode 223) 23 = .ok (.istore_n 3, 1) := by decide +kernel
theorem d223_24 : decode (xcode 223) 24 = .ok (.iconst 0, 1) := by decide +kernel
theorem d223_25 : decode (xcode 223) 25 = .ok (.istore 4, 2) := by decide +kernel
theorem d223_27 : decode (xcode 223) 27 = .ok (.aload_n 0, 1) := by decide +kernel
theorem d223_28 : decode (xcode 223) 28 = .ok (.getfield 52, 3) := by decide +kernel
theorem d223_31 : decode (xcode 223) 31 = .ok (.iconst 0, 1) := by decide +kernel
theorem d223_32 : decode (xcode 223) 32 = .ok (.iconst (-1), 1) := by decide +kernel
theorem d223_33 : decode (xcode 223) 33 = .ok (.iastore, 1) := by decide +kernel
theorem d223_34 : decode (xcode 223) 34 = .ok (.iload 4, 2) := by decide +kernel
theorem d223_36 : decode (xcode 223) 36 = .ok (.ifCond .lt 88, 3) := by decide +kernel
theorem d223_39 : decode (xcode 223) 39 = .ok (.aload_n 0, 1) := by decide +kernel
theorem d223_40 : decode (xcode 223) 40 = .ok (.getfield 52, 3) := by decide +kernel
theorem d223_43 : decode (xcode 223) 43 = .ok (.iload 4, 2) := by decide +kernel
theorem d223_45 : decode (xcode 223) 45 = .ok (.dup2, 1) := by decide +kernel
theorem d223_46 : decode (xcode 223) 46 = .ok (.iaload, 1) := by decide +kernel
theorem d223_47 : decode (xcode 223) 47 = .ok (.iconst 1, 1) := by decide +kernel
theorem d223_48 : decode (xcode 223) 48 = .ok (.iadd, 1) := by decide +kernel
theorem d223_49 : decode (xcode 223) 49 = .ok (.iastore, 1) := by decide +kernel
theorem d223_50 : decode (xcode 223) 50 = .ok (.aload_n 0, 1) := by decide +kernel
theorem d223_51 : decode (xcode 223) 51 = .ok (.getfield 52, 3) := by decide +kernel
theorem d223_54 : decode (xcode 223) 54 = .ok (.iload 4, 2) := by decide +kernel
theorem d223_56 : decode (xcode 223) 56 = .ok (.iaload, 1) := by decide +kernel
theorem d223_57 : decode (xcode 223) 57 = .ok (.aload_n 0, 1) := by decide +kernel
theorem d223_58 : decode (xcode 223) 58 = .ok (.getfield 39, 3) := by decide +kernel
theorem d223_61 : decode (xcode 223) 61 = .ok (.iconst 3, 1) := by decide +kernel
theorem d223_62 : decode (xcode 223) 62 = .ok (.iaload, 1) := by decide +kernel
theorem d223_63 : decode (xcode 223) 63 = .ok (.if_icmp .lt 9, 3) := by decide +kernel
theorem d223_66 : decode (xcode 223) 66 = .ok (.iinc 4 (-1), 3) := by decide +kernel
theorem d223_69 : decode (xcode 223) 69 = .ok (.goto (-35), 3) := by decide +kernel
theorem d223_72 : decode (xcode 223) 72 = .ok (.aload_n 0, 1) := by decide +kernel
theorem d223_73 : decode (xcode 223) 73 = .ok (.iload 4, 2) := by decide +kernel
theorem d223_75 : decode (xcode 223) 75 = .ok (.invokevirtual 399, 3) := by decide +kernel
theorem d223_78 : decode (xcode 223) 78 = .ok (.ifCond .ne 6, 3) := by decide +kernel
theorem d223_81 : decode (xcode 223) 81 = .ok (.goto (-47), 3) := by decide +kernel
theorem d223_84 : decode (xcode 223) 84 = .ok (.iinc 4 1, 3) := by decide +kernel
theorem d223_87 : decode (xcode 223) 87 = .ok (.aload_n 0, 1) := by decide +kernel
theorem d223_88 : decode (xcode 223) 88 = .ok (.iload 4, 2) := by decide +kernel
theorem d223_90 : decode (xcode 223) 90 = .ok (.bipush 44, 2) := by decide +kernel
theorem d223_92 : decode (xcode 223) 92 = .ok (.invokevirtual 374, 3) := by decide +kernel
theorem d223_95 : decode (xcode 223) 95 = .ok (.istore 5, 2) := by decide +kernel
theorem d223_97 : decode (xcode 223) 97 = .ok (.iload 5, 2) := by decide +kernel
theorem d223_99 : decode (xcode 223) 99 = .ok (.iload_n 2, 1) := by decide +kernel
theorem d223_100 : decode (xcode 223) 100 = .ok (.if_icmp .le 13, 3) := by decide +kernel
theorem d223_103 : decode (xcode 223) 103 = .ok (.iload 5, 2) := by decide +kernel
theorem d223_105 : decode (xcode 223) 105 = .ok (.istore_n 2, 1) := by decide +kernel
theorem d223_106 : decode (xcode 223) 106 = .ok (.aload_n 0, 1) := by decide +kernel
theorem d223_107 : decode (xcode 223) 107 = .ok (.getfield 52, 3) := by decide +kernel
theorem d223_110 : decode (xcode 223) 110 = .ok (.iconst 0, 1) := by decide +kernel
theorem d223_111 : decode (xcode 223) 111 = .ok (.iaload, 1) := by decide +kernel
theorem d223_112 : decode (xcode 223) 112 = .ok (.istore_n 3, 1) := by decide +kernel
theorem d223_113 : decode (xcode 223) 113 = .ok (.aload_n 0, 1) := by decide +kernel
theorem d223_114 : decode (xcode 223) 114 = .ok (.getfield 52, 3) := by decide +kernel
theorem d223_117 : decode (xcode 223) 117 = .ok (.iload 4, 2) := by decide +kernel
theorem d223_119 : decode (xcode 223) 119 = .ok (.iconst (-1), 1) := by decide +kernel
theorem d223_120 : decode (xcode 223) 120 = .ok (.iastore, 1) := by decide +kernel
theorem d223_121 : decode (xcode 223) 121 = .ok (.goto (-87), 3) := by decide +kernel
theorem d223_124 : decode (xcode 223) 124 = .ok (.iload_n 1, 1) := by decide +kernel
theorem d223_125 : decode (xcode 223) 125 = .ok (.ifCond .ne 7, 3) := by decide +kernel
theorem d223_128 : decode (xcode 223) 128 = .ok (.iload_n 2, 1) := by decide +kernel
theorem d223_129 : decode (xcode 223) 129 = .ok (.goto 4, 3) := by decide +kernel
theorem d223_132 : decode (xcode 223) 132 = .ok (.iload_n 3, 1) := by decide +kernel
theorem d223_133 : decode (xcode 223) 133 = .ok (.ireturn, 1) := by decide +kernel
noncomputable def f_M_chain_b124 (v1 : Int32) (v2 : Int32) (v3 : Int32) (h : xH) : Option (Int32 × xH) :=
  if v1 = (0 : Int32) then (
  some ((v2, h))) else (
  some ((v3, h)))
set_option maxHeartbeats 4000000 in
set_option maxRecDepth 100000 in
theorem f_M_chain_b124_ok {g : xG} {l : Launch} {d : Nat} {v1 : Int32} {v2 : Int32} {v3 : Int32} {h : xH} {o : (Int32 × xH)} {R : Option xV} {H' : xH} (hD : 3 ≤ d) (hf : f_M_chain_b124 v1 v2 v3 h = some o) (K0 : ∀ (a : Int32) (h1 : xH), o = (a, h1) → R = some (xi a) ∧ H' = h1) : xEv g l d 223 124 [(1, xi v1), (2, xi v2), (3, xi v3)] [] h R H' := by
  unfold f_M_chain_b124 at hf
  refine xs_iload_n d223_124 rfl ?_
  rcases lk_if hf with ⟨hc9, hf⟩ | ⟨hc9, hf⟩
  · refine xs_if_ne (tgt := 132) d223_125 (by decide) (fun _ => ?_) (fun hn => absurd hc9 hn)
    refine xs_iload_n d223_128 rfl ?_
    refine xs_goto (tgt := 133) d223_129 (by decide) ?_
    obtain ⟨eR, eH⟩ := K0 _ _ (Option.some.inj hf).symm
    subst eR; subst eH
    exact xs_iret d223_133 rt223
  · refine xs_if_ne (tgt := 132) d223_125 (by decide) (fun hp => absurd hp hc9) (fun _ => ?_)
    refine xs_iload_n d223_132 rfl ?_
    obtain ⟨eR, eH⟩ := K0 _ _ (Option.some.inj hf).symm
    subst eR; subst eH
    exact xs_iret d223_133 rt223
noncomputable def f_M_chain_b113 (v1 : Int32) (v2 : Int32) (v3 : Int32) (v4 : Int32) (h : xH) : Option ((Int32 × Int32 × Int32 × xH) ⊕ (Int32 × xH)) :=
  if xib v4 9 then (
  xlet (xsA h 59 0 (upd (h.2.2.2.1 59 0) (v4).toNatClampNeg (-1 : Int32))) fun h23 =>
  some (Sum.inl (v2, v3, v4, h23))) else none
set_option maxHeartbeats 4000000 in
set_option maxRecDepth 100000 in
theorem f_M_chain_b113_ok {g : xG} {l : Launch} {d : Nat} {v1 : Int32} {v2 : Int32} {v3 : Int32} {v4 : Int32} {h : xH} {o : ((Int32 × Int32 × Int32 × xH) ⊕ (Int32 × xH))} {R : Option xV} {H' : xH} (hD : 3 ≤ d) (hf : f_M_chain_b113 v1 v2 v3 v4 h = some o) (K1 : ∀ (w2 : Int32) (w3 : Int32) (w4 : Int32) (h1 : xH), o = Sum.inl (w2, w3, w4, h1) → xEv g l d 223 34 [(0, xr 12 (some 0)), (1, xi v1), (2, xi w2), (3, xi w3), (4, xi w4)] [] h1 R H') (K0 : ∀ (a : Int32) (h1 : xH), o = Sum.inr ((a, h1)) → R = some (xi a) ∧ H' = h1) : xEv g l d 223 113 [(0, xr 12 (some 0)), (1, xi v1), (2, xi v2), (3, xi v3), (4, xi v4)] [] h R H' := by
  unfold f_M_chain_b113 at hf
  refine xs_aload_n d223_113 rfl ?_
  refine xe_getc (j := 0) d223_114 ky223 fl187 fk12_26 rfl ?_
  refine xs_iload d223_117 rfl ?_
  refine xs_iconst (v := -1) d223_119 (by decide) ?_
  obtain ⟨hin22, hf⟩ := lk_g hf
  obtain ⟨h23, eh23, hf⟩ := lk_let hf
  refine xe_iast d223_120 (by decide) ak59 hin22  eh23 ?_
  refine xs_goto (tgt := 34) d223_121 (by decide) ?_
  exact K1 _ _ _ _ (Option.some.inj hf).symm
noncomputable def f_M_chain_s34 (v1 : Int32) (v2 : Int32) (v3 : Int32) (v4 : Int32) (h : xH) : Option ((Int32 × Int32 × Int32 × xH) ⊕ (Int32 × xH)) :=
  if v4 < (0 : Int32) then (
  xup (f_M_chain_b124 v1 v2 v3 h)) else (
  if xib v4 9 then (
  if xib v4 9 then (
  xlet (xsA h 59 0 (upd (h.2.2.2.1 59 0) (v4).toNatClampNeg ((h.2.2.2.1 59 0 (v4).toNatClampNeg) + (1 : Int32)))) fun h12 =>
  if xib v4 9 then (
  if (h12.2.2.2.1 59 0 (v4).toNatClampNeg) < (h12.2.2.2.1 56 0 ((3 : Int32)).toNatClampNeg) then (
  (f_M_isLink v4 h12).bind fun r15 =>
  if r15 = (0 : Int32) then (
  some (Sum.inl (v2, v3, v4, h12))) else (
  xlet (v4 + (1 : Int32)) fun v4_18 =>
  (f_M_rowSum v4_18 (44 : Int32) h12).bind fun r19 =>
  if r19 ≤ v2 then (
  f_M_chain_b113 v1 v2 v3 v4_18 h12) else (
  xlet (h12.2.2.2.1 59 0 ((0 : Int32)).toNatClampNeg) fun v3_24 =>
  f_M_chain_b113 v1 r19 v3_24 v4_18 h12))) else (
  xlet (v4 + (-1 : Int32)) fun v4_25 =>
  some (Sum.inl (v2, v3, v4_25, h12)))) else none) else none) else none)
set_option maxHeartbeats 4000000 in
set_option maxRecDepth 100000 in
theorem f_M_chain_s34_ok {g : xG} {l : Launch} {d : Nat} {v1 : Int32} {v2 : Int32} {v3 : Int32} {v4 : Int32} {h : xH} {o : ((Int32 × Int32 × Int32 × xH) ⊕ (Int32 × xH))} {R : Option xV} {H' : xH} (hD : 3 ≤ d) (hf : f_M_chain_s34 v1 v2 v3 v4 h = some o) (K1 : ∀ (w2 : Int32) (w3 : Int32) (w4 : Int32) (h1 : xH), o = Sum.inl (w2, w3, w4, h1) → xEv g l d 223 34 [(0, xr 12 (some 0)), (1, xi v1), (2, xi w2), (3, xi w3), (4, xi w4)] [] h1 R H') (K0 : ∀ (a : Int32) (h1 : xH), o = Sum.inr ((a, h1)) → R = some (xi a) ∧ H' = h1) : xEv g l d 223 34 [(0, xr 12 (some 0)), (1, xi v1), (2, xi v2), (3, xi v3), (4, xi v4)] [] h R H' := by
  unfold f_M_chain_s34 at hf
  refine xs_iload d223_34 rfl ?_
  rcases lk_if hf with ⟨hc8, hf⟩ | ⟨hc8, hf⟩
  · refine xs_if_lt (tgt := 124) d223_36 (by decide) (fun _ => ?_) (fun hn => absurd hc8 hn)
    refine xs_pick [1, 2, 3] rfl ?_
    obtain ⟨x0, hf, ex0⟩ := lk_up hf
    exact f_M_chain_b124_ok hD hf (fun u0 u1 e => K0 u0 u1 (ex0.trans (congrArg Sum.inr e)))
  · refine xs_if_lt (tgt := 124) d223_36 (by decide) (fun hp => absurd hp hc8) (fun _ => ?_)
    refine xs_aload_n d223_39 rfl ?_
    refine xe_getc (j := 0) d223_40 ky223 fl187 fk12_26 rfl ?_
    refine xs_iload d223_43 rfl ?_
    refine xs_dup2 d223_45 rfl rfl ?_
    obtain ⟨hin10, hf⟩ := lk_g hf
    refine xe_iald d223_46 (by decide) ak59 hin10 ?_
    refine xs_iconst (v := 1) d223_47 (by decide) ?_
    refine xs_iadd d223_48 ?_
    obtain ⟨hin11, hf⟩ := lk_g hf
    obtain ⟨h12, eh12, hf⟩ := lk_let hf
    refine xe_iast d223_49 (by decide) ak59 hin11  eh12 ?_
    refine xs_aload_n d223_50 rfl ?_
    refine xe_getc (j := 0) d223_51 ky223 fl187 fk12_26 rfl ?_
    refine xs_iload d223_54 rfl ?_
    obtain ⟨hin13, hf⟩ := lk_g hf
    refine xe_iald d223_56 (by decide) ak59 hin13 ?_
    refine xs_aload_n d223_57 rfl ?_
    refine xe_getc (j := 0) d223_58 ky223 fl181 fk12_20 rfl ?_
    refine xs_iconst (v := 3) d223_61 (by decide) ?_
    refine xe_iald d223_62 (by decide) ak56 (show xib (3 : Int32) 101 by decide) ?_
    rcases lk_if hf with ⟨hc14, hf⟩ | ⟨hc14, hf⟩
    · refine xs_icmp_lt (tgt := 72) d223_63 (by decide) (fun _ => ?_) (fun hn => absurd hc14 hn)
      refine xs_aload_n d223_72 rfl ?_
      refine xs_iload d223_73 rfl ?_
      obtain ⟨r15, hc16, hf⟩ := lk_b hf
      refine xe_callv1 (as := [xi v4]) (st := []) (h2 := h12) (d2 := d - 1) d223_75 ky223 ml263 st222 (by decide) cn222 rfl na222 (Nat.le_of_ble_eq_true rfl) (by omega) (f_M_isLink_ok (by omega) hc16) ?_
      rcases lk_if hf with ⟨hc17, hf⟩ | ⟨hc17, hf⟩
      · refine xs_if_ne (tgt := 84) d223_78 (by decide) (fun _ => ?_) (fun hn => absurd hc17 hn)
        refine xs_goto (tgt := 34) d223_81 (by decide) ?_
        exact K1 _ _ _ _ (Option.some.inj hf).symm
      · refine xs_if_ne (tgt := 84) d223_78 (by decide) (fun hp => absurd hp hc17) (fun _ => ?_)
        obtain ⟨v4_18, ev4_18, hf⟩ := lk_let hf
        refine xe_iinc (v := v4_18) (b := 1) (ls2 := [(0, xr 12 (some 0)), (1, xi v1), (2, xi v2), (3, xi v3), (4, xi v4_18)]) d223_84 mx223 (by decide) rfl (by decide) ev4_18 rfl ?_
        refine xs_aload_n d223_87 rfl ?_
        refine xs_iload d223_88 rfl ?_
        refine xs_bipush (v := 44) d223_90 (by decide) ?_
        obtain ⟨r19, hc20, hf⟩ := lk_b hf
        refine xe_callv1 (as := [xi v4_18, xi (44 : Int32)]) (st := []) (h2 := h12) (d2 := d - 1) d223_92 ky223 ml261 st218 (by decide) cn218 rfl na218 (Nat.le_of_ble_eq_true rfl) (by omega) (f_M_rowSum_ok (by omega) hc20) ?_
        refine xe_istore (v := r19) (ls2 := [(0, xr 12 (some 0)), (1, xi v1), (2, xi v2), (3, xi v3), (4, xi v4_18), (5, xi r19)]) d223_95 mx223 (by decide) rfl rfl ?_
        refine xs_iload d223_97 rfl ?_
        refine xs_iload_n d223_99 rfl ?_
        rcases lk_if hf with ⟨hc21, hf⟩ | ⟨hc21, hf⟩
        · refine xs_icmp_le (tgt := 113) d223_100 (by decide) (fun _ => ?_) (fun hn => absurd hc21 hn)
          refine xs_pick [0, 1, 2, 3, 4] rfl ?_
          exact f_M_chain_b113_ok hD hf K1 K0
        · refine xs_icmp_le (tgt := 113) d223_100 (by decide) (fun hp => absurd hp hc21) (fun _ => ?_)
          refine xs_iload d223_103 rfl ?_
          refine xe_istore_n (v := r19) (ls2 := [(0, xr 12 (some 0)), (1, xi v1), (2, xi r19), (3, xi v3), (4, xi v4_18), (5, xi r19)]) d223_105 mx223 (by decide) rfl rfl ?_
          refine xs_aload_n d223_106 rfl ?_
          refine xe_getc (j := 0) d223_107 ky223 fl187 fk12_26 rfl ?_
          refine xs_iconst (v := 0) d223_110 (by decide) ?_
          refine xe_iald d223_111 (by decide) ak59 (show xib (0 : Int32) 9 by decide) ?_
          obtain ⟨v3_24, ev3_24, hf⟩ := lk_let hf
          refine xe_istore_n (v := v3_24) (ls2 := [(0, xr 12 (some 0)), (1, xi v1), (2, xi r19), (3, xi v3_24), (4, xi v4_18), (5, xi r19)]) d223_112 mx223 (by decide) ev3_24 rfl ?_
          refine xs_pick [0, 1, 2, 3, 4] rfl ?_
          exact f_M_chain_b113_ok hD hf K1 K0
    · refine xs_icmp_lt (tgt := 72) d223_63 (by decide) (fun hp => absurd hp hc14) (fun _ => ?_)
      obtain ⟨v4_25, ev4_25, hf⟩ := lk_let hf
      refine xe_iinc (v := v4_25) (b := -1) (ls2 := [(0, xr 12 (some 0)), (1, xi v1), (2, xi v2), (3, xi v3), (4, xi v4_25)]) d223_66 mx223 (by decide) rfl (by decide) ev4_25 rfl ?_
      refine xs_goto (tgt := 34) d223_69 (by decide) ?_
      exact K1 _ _ _ _ (Option.some.inj hf).symm
noncomputable def f_M_chain_l34 (v1 : Int32) (v2 : Int32) (v3 : Int32) (v4 : Int32) (h : xH) : Option (Int32 × xH) :=
  whl (fun s => f_M_chain_s34 v1 s.1 s.2.1 s.2.2.1 s.2.2.2) (v2, v3, v4, h)
theorem f_M_chain_l34_ok {g : xG} {l : Launch} {d : Nat} {v1 : Int32} {v2 : Int32} {v3 : Int32} {v4 : Int32} {h : xH} {o : (Int32 × xH)} {R : Option xV} {H' : xH} (hD : 3 ≤ d) (hf : f_M_chain_l34 v1 v2 v3 v4 h = some o) (K0 : ∀ (a : Int32) (h1 : xH), o = (a, h1) → R = some (xi a) ∧ H' = h1) : xEv g l d 223 34 [(0, xr 12 (some 0)), (1, xi v1), (2, xi v2), (3, xi v3), (4, xi v4)] [] h R H' := by
  obtain ⟨n, hn⟩ := whl_iff.mp hf
  clear hf
  induction n generalizing v2 v3 v4 h with
  | zero => cases hn
  | succ n ih =>
    obtain ⟨o2, hs, hn⟩ := lk_b (show (f_M_chain_s34 v1 v2 v3 v4 h).bind (fun o => Sum.elim (itn _ n) some o) = some o from hn)
    exact f_M_chain_s34_ok hD hs (fun u0 u1 u2 u3 e => ih (by rw [e] at hn; exact hn)) (fun u0 u1 e => K0 u0 u1 (by rw [e] at hn; exact (Option.some.inj hn).symm))
noncomputable def f_M_chain_e (v1 : Int32) (h : xH) : Option (Int32 × xH) :=
  (f_M_isTrug h).bind fun r1 =>
  if r1 = (0 : Int32) then (
  some (((-1 : Int32), h))) else (
  (f_M_in ((v1).toInt64) (0 : Int64) (1 : Int64) h).bind fun r4 =>
  if r4 = (0 : Int32) then (
  some (((-1 : Int32), h))) else (
  xlet (xsA h 59 0 (upd (h.2.2.2.1 59 0) ((0 : Int32)).toNatClampNeg (-1 : Int32))) fun h7 =>
  f_M_chain_l34 v1 (0 : Int32) (-2 : Int32) (0 : Int32) h7))
set_option maxHeartbeats 4000000 in
set_option maxRecDepth 100000 in
theorem f_M_chain_e_ok {g : xG} {l : Launch} {d : Nat} {v1 : Int32} {h : xH} {o : (Int32 × xH)} {R : Option xV} {H' : xH} (hD : 3 ≤ d) (hf : f_M_chain_e v1 h = some o) (K0 : ∀ (a : Int32) (h1 : xH), o = (a, h1) → R = some (xi a) ∧ H' = h1) : xEv g l d 223 0 [(0, xr 12 (some 0)), (1, xi v1)] [] h R H' := by
  unfold f_M_chain_e at hf
  refine xs_aload_n d223_0 rfl ?_
  obtain ⟨r1, hc2, hf⟩ := lk_b hf
  refine xe_callv1 (as := []) (st := []) (h2 := h) (d2 := d - 1) d223_1 ky223 ml225 st184 (by decide) cn184 rfl na184 (Nat.le_of_ble_eq_true rfl) (by omega) (f_M_isTrug_ok (by omega) hc2) ?_
  rcases lk_if hf with ⟨hc3, hf⟩ | ⟨hc3, hf⟩
  · refine xs_if_eq (tgt := 17) d223_4 (by decide) (fun _ => ?_) (fun hn => absurd hc3 hn)
    refine xs_iconst (v := -1) d223_17 (by decide) ?_
    obtain ⟨eR, eH⟩ := K0 _ _ (Option.some.inj hf).symm
    subst eR; subst eH
    exact xs_iret d223_18 rt223
  · refine xs_if_eq (tgt := 17) d223_4 (by decide) (fun hp => absurd hp hc3) (fun _ => ?_)
    refine xs_iload_n d223_7 rfl ?_
    refine xs_i2l d223_8 ?_
    refine xs_lconst (v := 0) d223_9 (by decide) ?_
    refine xs_lconst (v := 1) d223_10 (by decide) ?_
    obtain ⟨r4, hc5, hf⟩ := lk_b hf
    refine xe_calls1 (as := [xl ((v1).toInt64), xl (0 : Int64), xl (1 : Int64)]) (st := []) (h2 := h) (d2 := d - 1) d223_11 ky223 ml196 st139 rfl na139 (Nat.le_of_ble_eq_true rfl) (by omega) (f_M_in_ok (by omega) hc5) ?_
    rcases lk_if hf with ⟨hc6, hf⟩ | ⟨hc6, hf⟩
    · refine xs_if_ne (tgt := 19) d223_14 (by decide) (fun _ => ?_) (fun hn => absurd hc6 hn)
      refine xs_iconst (v := -1) d223_17 (by decide) ?_
      obtain ⟨eR, eH⟩ := K0 _ _ (Option.some.inj hf).symm
      subst eR; subst eH
      exact xs_iret d223_18 rt223
    · refine xs_if_ne (tgt := 19) d223_14 (by decide) (fun hp => absurd hp hc6) (fun _ => ?_)
      refine xs_iconst (v := 0) d223_19 (by decide) ?_
      refine xe_istore_n (v := (0 : Int32)) (ls2 := [(0, xr 12 (some 0)), (1, xi v1), (2, xi (0 : Int32))]) d223_20 mx223 (by decide) rfl rfl ?_
      refine xs_bipush (v := -2) d223_21 (by decide) ?_
      refine xe_istore_n (v := (-2 : Int32)) (ls2 := [(0, xr 12 (some 0)), (1, xi v1), (2, xi (0 : Int32)), (3, xi (-2 : Int32))]) d223_23 mx223 (by decide) rfl rfl ?_
      refine xs_iconst (v := 0) d223_24 (by decide) ?_
      refine xe_istore (v := (0 : Int32)) (ls2 := [(0, xr 12 (some 0)), (1, xi v1), (2, xi (0 : Int32)), (3, xi (-2 : Int32)), (4, xi (0 : Int32))]) d223_25 mx223 (by decide) rfl rfl ?_
      refine xs_aload_n d223_27 rfl ?_
      refine xe_getc (j := 0) d223_28 ky223 fl187 fk12_26 rfl ?_
      refine xs_iconst (v := 0) d223_31 (by decide) ?_
      refine xs_iconst (v := -1) d223_32 (by decide) ?_
      obtain ⟨h7, eh7, hf⟩ := lk_let hf
      refine xe_iast d223_33 (by decide) ak59 (show xib (0 : Int32) 9 by decide)  eh7 ?_
      exact f_M_chain_l34_ok hD hf K0
noncomputable def f_M_chain (v1 : Int32) (h : xH) : Option (Int32 × xH) := f_M_chain_e v1 h
theorem f_M_chain_ok {g : xG} {l : Launch} {d : Nat} {v1 : Int32} {h : xH} {r : Int32} {h1 : xH} (hD : 3 ≤ d) (hf : f_M_chain v1 h = some (r, h1)) : xC g l d 223 [xr 12 (some 0), xi v1] h (some (xi r)) h1 :=
  xC_of2 (by decide) mx223 (Nat.le_of_ble_eq_true rfl) (f_M_chain_e_ok hD hf (fun _ _ e => by cases e; exact ⟨rfl, rfl⟩))
theorem d224_0 : decode (xcode 224) 0 = .ok (.iconst 0, 1) := by decide +kernel
theorem d224_1 : decode (xcode 224) 1 = .ok (.istore_n 2, 1) := by decide +kernel
theorem d224_2 : decode (xcode 224) 2 = .ok (.iconst 0, 1) := by decide +kernel
theorem d224_3 : decode (xcode 224) 3 = .ok (.istore_n 3, 1) := by decide +kernel
theorem d224_4 : decode (xcode 224) 4 = .ok (.iload_n 3, 1) := by decide +kernel
theorem d224_5 : decode (xcode 224) 5 = .ok (.aload_n 0, 1) := by decide +kernel
theorem d224_6 : decode (xcode 224) 6 = .ok (.getfield 39, 3) := by decide +kernel
theorem d224_9 : decode (xcode 224) 9 = .ok (.iconst 3, 1) := by decide +kernel
theorem d224_10 : decode (xcode 224) 10 = .ok (.iaload, 1) := by decide +kernel
theorem d224_11 : decode (xcode 224) 11 = .ok (.if_icmp .ge 111, 3) := by decide +kernel
theorem d224_14 : decode (xcode 224) 14 = .ok (.iload_n 1, 1) := by decide +kernel
theorem d224_15 : decode (xcode 224) 15 = .ok (.iload_n 3, 1) := by decide +kernel
theorem d224_16 : decode (xcode 224) 16 = .ok (.invokestatic 301, 3) := by decide +kernel
theorem d224_19 : decode (xcode 224) 19 = .ok (.ifCond .ne 6, 3) := by decide +kernel
theorem d224_22 : decode (xcode 224) 22 = .ok (.goto 94, 3) := by decide +kernel
theorem d224_25 : decode (xcode 224) 25 = .ok (.aload_n 0, 1) := by decide +kernel
theorem d224_26 : decode (xcode 224) 26 = .ok (.getfield 39, 3) := by decide +kernel
theorem d224_29 : decode (xcode 224) 29 = .ok (.bipush 36, 2) := by decide +kernel
theorem d224_31 : decode (xcode 224) 31 = .ok (.iload_n 3, 1) := by decide +kernel
theorem d224_32 : decode (xcode 224) 32 = .ok (.iadd, 1) := by decide +kernel
theorem d224_33 : decode (xcode 224) 33 = .ok (.iaload, 1) := by decide +kernel
theorem d224_34 : decode (xcode 224) 34 = .ok (.iload_n 1, 1) := by decide +kernel
theorem d224_35 : decode (xcode 224) 35 = .ok (.iand, 1) := by decide +kernel
theorem d224_36 : decode (xcode 224) 36 = .ok (.istore 4, 2) := by decide +kernel
theorem d224_38 : decode (xcode 224) 38 = .ok (.iconst 0, 1) := by decide +kernel
theorem d224_39 : decode (xcode 224) 39 = .ok (.istore 5, 2) := by decide +kernel
theorem d224_41 : decode (xcode 224) 41 = .ok (.iload 5, 2) := by decide +kernel
theorem d224_43 : decode (xcode 224) 43 = .ok (.bipush 8, 2) := by decide +kernel
theorem d224_45 : decode (xcode 224) 45 = .ok (.if_icmp .ge 56, 3) := by decide +kernel
theorem d224_48 : decode (xcode 224) 48 = .ok (.iconst 0, 1) := by decide +kernel
theorem d224_49 : decode (xcode 224) 49 = .ok (.istore 6, 2) := by decide +kernel
theorem d224_51 : decode (xcode 224) 51 = .ok (.iload 6, 2) := by decide +kernel
theorem d224_53 : decode (xcode 224) 53 = .ok (.aload_n 0, 1) := by decide +kernel
theorem d224_54 : decode (xcode 224) 54 = .ok (.getfield 39, 3) := by decide +kernel
theorem d224_57 : decode (xcode 224) 57 = .ok (.iconst 3, 1) := by decide +kernel
theorem d224_58 : decode (xcode 224) 58 = .ok (.iaload, 1) := by decide +kernel
theorem d224_59 : decode (xcode 224) 59 = .ok (.if_icmp .ge 36, 3) := by decide +kernel
theorem d224_62 : decode (xcode 224) 62 = .ok (.iload 4, 2) := by decide +kernel
theorem d224_64 : decode (xcode 224) 64 = .ok (.iload 6, 2) := by decide +kernel
theorem d224_66 : decode (xcode 224) 66 = .ok (.invokestatic 301, 3) := by decide +kernel
theorem d224_69 : decode (xcode 224) 69 = .ok (.ifCond .eq 20, 3) := by decide +kernel
theorem d224_72 : decode (xcode 224) 72 = .ok (.iload 4, 2) := by decide +kernel
theorem d224_74 : decode (xcode 224) 74 = .ok (.aload_n 0, 1) := by decide +kernel
theorem d224_75 : decode (xcode 224) 75 = .ok (.getfield 39, 3) := by decide +kernel
theorem d224_78 : decode (xcode 224) 78 = .ok (.bipush 36, 2) := by decide +kernel
theorem d224_80 : decode (xcode 224) 80 = .ok (.iload 6, 2) := by decide +kernel
theorem d224_82 : decode (xcode 224) 82 = .ok (.iadd, 1) := by decide +kernel
theorem d224_83 : decode (xcode 224) 83 = .ok (.iaload, 1) := by decide +kernel
theorem d224_84 : decode (xcode 224) 84 = .ok (.iload_n 1, 1) := by decide +kernel
theorem d224_85 : decode (xcode 224) 85 = .ok (.iand, 1) := by decide +kernel
theorem d224_86 : decode (xcode 224) 86 = .ok (.ior, 1) := by decide +kernel
theorem d224_87 : decode (xcode 224) 87 = .ok (.istore 4, 2) := by decide +kernel
theorem d224_89 : decode (xcode 224) 89 = .ok (.iinc 6 1, 3) := by decide +kernel
theorem d224_92 : decode (xcode 224) 92 = .ok (.goto (-41), 3) := by decide +kernel
theorem d224_95 : decode (xcode 224) 95 = .ok (.iinc 5 1, 3) := by decide +kernel
theorem d224_98 : decode (xcode 224) 98 = .ok (.goto (-57), 3) := by decide +kernel
theorem d224_101 : decode (xcode 224) 101 = .ok (.iload 4, 2) := by decide +kernel
theorem d224_103 : decode (xcode 224) 103 = .ok (.iload_n 3, 1) := by decide +kernel
theorem d224_104 : decode (xcode 224) 104 = .ok (.invokestatic 301, 3) := by decide +kernel
theorem d224_107 : decode (xcode 224) 107 = .ok (.ifCond .eq 9, 3) := by decide +kernel
theorem d224_110 : decode (xcode 224) 110 = .ok (.iload_n 2, 1) := by decide +kernel
theorem d224_111 : decode (xcode 224) 111 = .ok (.iconst 1, 1) := by decide +kernel
theorem d224_112 : decode (xcode 224) 112 = .ok (.iload_n 3, 1) := by decide +kernel
theorem d224_113 : decode (xcode 224) 113 = .ok (.ishl, 1) := by decide +kernel
theorem d224_114 : decode (xcode 224) 114 = .ok (.ior, 1) := by decide +kernel
theorem d224_115 : decode (xcode 224) 115 = .ok (.istore_n 2, 1) := by decide +kernel
theorem d224_116 : decode (xcode 224) 116 = .ok (.iinc 3 1, 3) := by decide +kernel
theorem d224_119 : decode (xcode 224) 119 = .ok (.goto (-115), 3) := by decide +kernel
theorem d224_122 : decode (xcode 224) 122 = .ok (.iload_n 2, 1) := by decide +kernel
theorem d224_123 : decode (xcode 224) 123 = .ok (.ireturn, 1) := by decide +kernel
noncomputable def f_M_ringsIn_b116 (v1 : Int32) (v2 : Int32) (v3 : Int32) (h : xH) : Option ((Int32 × Int32) ⊕ Int32) :=
  xlet (v3 + (1 : Int32)) fun v3_5 =>
  some (Sum.inl (v2, v3_5))
set_option maxHeartbeats 4000000 in
set_option maxRecDepth 100000 in
theorem f_M_ringsIn_b116_ok {g : xG} {l : Launch} {d : Nat} {v1 : Int32} {v2 : Int32} {v3 : Int32} {h : xH} {o : ((Int32 × Int32) ⊕ Int32)} {R : Option xV} (hD : 1 ≤ d) (hf : f_M_ringsIn_b116 v1 v2 v3 h = some o) (K1 : ∀ (w2 : Int32) (w3 : Int32), o = Sum.inl (w2, w3) → xEv g l d 224 4 [(0, xr 12 (some 0)), (1, xi v1), (2, xi w2), (3, xi w3)] [] h R h) (K0 : ∀ (a : Int32), o = Sum.inr (a) → R = some (xi a)) : xEv g l d 224 116 [(0, xr 12 (some 0)), (1, xi v1), (2, xi v2), (3, xi v3)] [] h R h := by
  unfold f_M_ringsIn_b116 at hf
  obtain ⟨v3_5, ev3_5, hf⟩ := lk_let hf
  refine xe_iinc (v := v3_5) (b := 1) (ls2 := [(0, xr 12 (some 0)), (1, xi v1), (2, xi v2), (3, xi v3_5)]) d224_116 mx224 (by decide) rfl (by decide) ev3_5 rfl ?_
  refine xs_goto (tgt := 4) d224_119 (by decide) ?_
  exact K1 _ _ (Option.some.inj hf).symm
noncomputable def f_M_ringsIn_b101 (v1 : Int32) (v2 : Int32) (v3 : Int32) (v4 : Int32) (h : xH) : Option ((Int32 × Int32) ⊕ Int32) :=
  (f_M_isOf v4 v3 h).bind fun r9 =>
  if r9 = (0 : Int32) then (
  f_M_ringsIn_b116 v1 v2 v3 h) else (
  xlet (v2 ||| ((1 : Int32) <<< (v3 &&& 31))) fun v2_12 =>
  f_M_ringsIn_b116 v1 v2_12 v3 h)
set_option maxHeartbeats 4000000 in
set_option maxRecDepth 100000 in
theorem f_M_ringsIn_b101_ok {g : xG} {l : Launch} {d : Nat} {v1 : Int32} {v2 : Int32} {v3 : Int32} {v4 : Int32} {h : xH} {o : ((Int32 × Int32) ⊕ Int32)} {R : Option xV} (hD : 1 ≤ d) (hf : f_M_ringsIn_b101 v1 v2 v3 v4 h = some o) (K1 : ∀ (w2 : Int32) (w3 : Int32), o = Sum.inl (w2, w3) → xEv g l d 224 4 [(0, xr 12 (some 0)), (1, xi v1), (2, xi w2), (3, xi w3)] [] h R h) (K0 : ∀ (a : Int32), o = Sum.inr (a) → R = some (xi a)) : xEv g l d 224 101 [(0, xr 12 (some 0)), (1, xi v1), (2, xi v2), (3, xi v3), (4, xi v4)] [] h R h := by
  unfold f_M_ringsIn_b101 at hf
  refine xs_iload d224_101 rfl ?_
  refine xs_iload_n d224_103 rfl ?_
  obtain ⟨r9, hc10, hf⟩ := lk_b hf
  refine xe_calls1 (as := [xi v4, xi v3]) (st := []) (h2 := h) (d2 := d - 1) d224_104 ky224 ml233 st140 rfl na140 (Nat.le_of_ble_eq_true rfl) (by omega) (f_M_isOf_ok (by omega) hc10) ?_
  rcases lk_if hf with ⟨hc11, hf⟩ | ⟨hc11, hf⟩
  · refine xs_if_eq (tgt := 116) d224_107 (by decide) (fun _ => ?_) (fun hn => absurd hc11 hn)
    refine xs_pick [0, 1, 2, 3] rfl ?_
    exact f_M_ringsIn_b116_ok hD hf K1 K0
  · refine xs_if_eq (tgt := 116) d224_107 (by decide) (fun hp => absurd hp hc11) (fun _ => ?_)
    refine xs_iload_n d224_110 rfl ?_
    refine xs_iconst (v := 1) d224_111 (by decide) ?_
    refine xs_iload_n d224_112 rfl ?_
    refine xs_ishl d224_113 ?_
    refine xs_ior d224_114 ?_
    obtain ⟨v2_12, ev2_12, hf⟩ := lk_let hf
    refine xe_istore_n (v := v2_12) (ls2 := [(0, xr 12 (some 0)), (1, xi v1), (2, xi v2_12), (3, xi v3), (4, xi v4)]) d224_115 mx224 (by decide) ev2_12 rfl ?_
    refine xs_pick [0, 1, 2, 3] rfl ?_
    exact f_M_ringsIn_b116_ok hD hf K1 K0
noncomputable def f_M_ringsIn_b95 (v1 : Int32) (v2 : Int32) (v3 : Int32) (v4 : Int32) (v5 : Int32) (h : xH) : Option ((Int32 × Int32) ⊕ ((Int32 × Int32) ⊕ Int32)) :=
  xlet (v5 + (1 : Int32)) fun v5_14 =>
  some (Sum.inl (v4, v5_14))
set_option maxHeartbeats 4000000 in
set_option maxRecDepth 100000 in
theorem f_M_ringsIn_b95_ok {g : xG} {l : Launch} {d : Nat} {v1 : Int32} {v2 : Int32} {v3 : Int32} {v4 : Int32} {v5 : Int32} {h : xH} {o : ((Int32 × Int32) ⊕ ((Int32 × Int32) ⊕ Int32))} {R : Option xV} (hD : 1 ≤ d) (hf : f_M_ringsIn_b95 v1 v2 v3 v4 v5 h = some o) (K1 : ∀ (w2 : Int32) (w3 : Int32), o = Sum.inr (Sum.inl (w2, w3)) → xEv g l d 224 4 [(0, xr 12 (some 0)), (1, xi v1), (2, xi w2), (3, xi w3)] [] h R h) (K2 : ∀ (w4 : Int32) (w5 : Int32), o = Sum.inl (w4, w5) → xEv g l d 224 41 [(0, xr 12 (some 0)), (1, xi v1), (2, xi v2), (3, xi v3), (4, xi w4), (5, xi w5)] [] h R h) (K0 : ∀ (a : Int32), o = Sum.inr (Sum.inr (a)) → R = some (xi a)) : xEv g l d 224 95 [(0, xr 12 (some 0)), (1, xi v1), (2, xi v2), (3, xi v3), (4, xi v4), (5, xi v5)] [] h R h := by
  unfold f_M_ringsIn_b95 at hf
  obtain ⟨v5_14, ev5_14, hf⟩ := lk_let hf
  refine xe_iinc (v := v5_14) (b := 1) (ls2 := [(0, xr 12 (some 0)), (1, xi v1), (2, xi v2), (3, xi v3), (4, xi v4), (5, xi v5_14)]) d224_95 mx224 (by decide) rfl (by decide) ev5_14 rfl ?_
  refine xs_goto (tgt := 41) d224_98 (by decide) ?_
  exact K2 _ _ (Option.some.inj hf).symm
noncomputable def f_M_ringsIn_b89 (v1 : Int32) (v2 : Int32) (v3 : Int32) (v4 : Int32) (v5 : Int32) (v6 : Int32) (h : xH) : Option ((Int32 × Int32) ⊕ ((Int32 × Int32) ⊕ ((Int32 × Int32) ⊕ Int32))) :=
  xlet (v6 + (1 : Int32)) fun v6_18 =>
  some (Sum.inl (v4, v6_18))
set_option maxHeartbeats 4000000 in
set_option maxRecDepth 100000 in
theorem f_M_ringsIn_b89_ok {g : xG} {l : Launch} {d : Nat} {v1 : Int32} {v2 : Int32} {v3 : Int32} {v4 : Int32} {v5 : Int32} {v6 : Int32} {h : xH} {o : ((Int32 × Int32) ⊕ ((Int32 × Int32) ⊕ ((Int32 × Int32) ⊕ Int32)))} {R : Option xV} (hD : 1 ≤ d) (hf : f_M_ringsIn_b89 v1 v2 v3 v4 v5 v6 h = some o) (K1 : ∀ (w2 : Int32) (w3 : Int32), o = Sum.inr (Sum.inr (Sum.inl (w2, w3))) → xEv g l d 224 4 [(0, xr 12 (some 0)), (1, xi v1), (2, xi w2), (3, xi w3)] [] h R h) (K2 : ∀ (w4 : Int32) (w5 : Int32), o = Sum.inr (Sum.inl (w4, w5)) → xEv g l d 224 41 [(0, xr 12 (some 0)), (1, xi v1), (2, xi v2), (3, xi v3), (4, xi w4), (5, xi w5)] [] h R h) (K3 : ∀ (w4 : Int32) (w6 : Int32), o = Sum.inl (w4, w6) → xEv g l d 224 51 [(0, xr 12 (some 0)), (1, xi v1), (2, xi v2), (3, xi v3), (4, xi w4), (5, xi v5), (6, xi w6)] [] h R h) (K0 : ∀ (a : Int32), o = Sum.inr (Sum.inr (Sum.inr (a))) → R = some (xi a)) : xEv g l d 224 89 [(0, xr 12 (some 0)), (1, xi v1), (2, xi v2), (3, xi v3), (4, xi v4), (5, xi v5), (6, xi v6)] [] h R h := by
  unfold f_M_ringsIn_b89 at hf
  obtain ⟨v6_18, ev6_18, hf⟩ := lk_let hf
  refine xe_iinc (v := v6_18) (b := 1) (ls2 := [(0, xr 12 (some 0)), (1, xi v1), (2, xi v2), (3, xi v3), (4, xi v4), (5, xi v5), (6, xi v6_18)]) d224_89 mx224 (by decide) rfl (by decide) ev6_18 rfl ?_
  refine xs_goto (tgt := 51) d224_92 (by decide) ?_
  exact K3 _ _ (Option.some.inj hf).symm
noncomputable def f_M_ringsIn_s51 (v1 : Int32) (v2 : Int32) (v3 : Int32) (v4 : Int32) (v5 : Int32) (v6 : Int32) (h : xH) : Option ((Int32 × Int32) ⊕ ((Int32 × Int32) ⊕ ((Int32 × Int32) ⊕ Int32))) :=
  if (h.2.2.2.1 56 0 ((3 : Int32)).toNatClampNeg) ≤ v6 then (
  xup (f_M_ringsIn_b95 v1 v2 v3 v4 v5 h)) else (
  (f_M_isOf v4 v6 h).bind fun r15 =>
  if r15 = (0 : Int32) then (
  f_M_ringsIn_b89 v1 v2 v3 v4 v5 v6 h) else (
  if xib ((36 : Int32) + v6) 101 then (
  xlet (v4 ||| ((h.2.2.2.1 56 0 ((36 : Int32) + v6).toNatClampNeg) &&& v1)) fun v4_20 =>
  f_M_ringsIn_b89 v1 v2 v3 v4_20 v5 v6 h) else none))
set_option maxHeartbeats 4000000 in
set_option maxRecDepth 100000 in
theorem f_M_ringsIn_s51_ok {g : xG} {l : Launch} {d : Nat} {v1 : Int32} {v2 : Int32} {v3 : Int32} {v4 : Int32} {v5 : Int32} {v6 : Int32} {h : xH} {o : ((Int32 × Int32) ⊕ ((Int32 × Int32) ⊕ ((Int32 × Int32) ⊕ Int32)))} {R : Option xV} (hD : 1 ≤ d) (hf : f_M_ringsIn_s51 v1 v2 v3 v4 v5 v6 h = some o) (K1 : ∀ (w2 : Int32) (w3 : Int32), o = Sum.inr (Sum.inr (Sum.inl (w2, w3))) → xEv g l d 224 4 [(0, xr 12 (some 0)), (1, xi v1), (2, xi w2), (3, xi w3)] [] h R h) (K2 : ∀ (w4 : Int32) (w5 : Int32), o = Sum.inr (Sum.inl (w4, w5)) → xEv g l d 224 41 [(0, xr 12 (some 0)), (1, xi v1), (2, xi v2), (3, xi v3), (4, xi w4), (5, xi w5)] [] h R h) (K3 : ∀ (w4 : Int32) (w6 : Int32), o = Sum.inl (w4, w6) → xEv g l d 224 51 [(0, xr 12 (some 0)), (1, xi v1), (2, xi v2), (3, xi v3), (4, xi w4), (5, xi v5), (6, xi w6)] [] h R h) (K0 : ∀ (a : Int32), o = Sum.inr (Sum.inr (Sum.inr (a))) → R = some (xi a)) : xEv g l d 224 51 [(0, xr 12 (some 0)), (1, xi v1), (2, xi v2), (3, xi v3), (4, xi v4), (5, xi v5), (6, xi v6)] [] h R h := by
  unfold f_M_ringsIn_s51 at hf
  refine xs_iload d224_51 rfl ?_
  refine xs_aload_n d224_53 rfl ?_
  refine xe_getc (j := 0) d224_54 ky224 fl181 fk12_20 rfl ?_
  refine xs_iconst (v := 3) d224_57 (by decide) ?_
  refine xe_iald d224_58 (by decide) ak56 (show xib (3 : Int32) 101 by decide) ?_
  rcases lk_if hf with ⟨hc13, hf⟩ | ⟨hc13, hf⟩
  · refine xs_icmp_ge (tgt := 95) d224_59 (by decide) (fun _ => ?_) (fun hn => absurd hc13 hn)
    refine xs_pick [0, 1, 2, 3, 4, 5] rfl ?_
    obtain ⟨x0, hf, ex0⟩ := lk_up hf
    exact f_M_ringsIn_b95_ok hD hf (fun u0 u1 e => K1 u0 u1 (ex0.trans (congrArg Sum.inr e))) (fun u0 u1 e => K2 u0 u1 (ex0.trans (congrArg Sum.inr e))) (fun u0 e => K0 u0 (ex0.trans (congrArg Sum.inr e)))
  · refine xs_icmp_ge (tgt := 95) d224_59 (by decide) (fun hp => absurd hp hc13) (fun _ => ?_)
    refine xs_iload d224_62 rfl ?_
    refine xs_iload d224_64 rfl ?_
    obtain ⟨r15, hc16, hf⟩ := lk_b hf
    refine xe_calls1 (as := [xi v4, xi v6]) (st := []) (h2 := h) (d2 := d - 1) d224_66 ky224 ml233 st140 rfl na140 (Nat.le_of_ble_eq_true rfl) (by omega) (f_M_isOf_ok (by omega) hc16) ?_
    rcases lk_if hf with ⟨hc17, hf⟩ | ⟨hc17, hf⟩
    · refine xs_if_eq (tgt := 89) d224_69 (by decide) (fun _ => ?_) (fun hn => absurd hc17 hn)
      exact f_M_ringsIn_b89_ok hD hf K1 K2 K3 K0
    · refine xs_if_eq (tgt := 89) d224_69 (by decide) (fun hp => absurd hp hc17) (fun _ => ?_)
      refine xs_iload d224_72 rfl ?_
      refine xs_aload_n d224_74 rfl ?_
      refine xe_getc (j := 0) d224_75 ky224 fl181 fk12_20 rfl ?_
      refine xs_bipush (v := 36) d224_78 (by decide) ?_
      refine xs_iload d224_80 rfl ?_
      refine xs_iadd d224_82 ?_
      obtain ⟨hin19, hf⟩ := lk_g hf
      refine xe_iald d224_83 (by decide) ak56 hin19 ?_
      refine xs_iload_n d224_84 rfl ?_
      refine xs_iand d224_85 ?_
      refine xs_ior d224_86 ?_
      obtain ⟨v4_20, ev4_20, hf⟩ := lk_let hf
      refine xe_istore (v := v4_20) (ls2 := [(0, xr 12 (some 0)), (1, xi v1), (2, xi v2), (3, xi v3), (4, xi v4_20), (5, xi v5), (6, xi v6)]) d224_87 mx224 (by decide) ev4_20 rfl ?_
      exact f_M_ringsIn_b89_ok hD hf K1 K2 K3 K0
noncomputable def f_M_ringsIn_l51 (v1 : Int32) (v2 : Int32) (v3 : Int32) (v4 : Int32) (v5 : Int32) (v6 : Int32) (h : xH) : Option ((Int32 × Int32) ⊕ ((Int32 × Int32) ⊕ Int32)) :=
  whl (fun s => f_M_ringsIn_s51 v1 v2 v3 s.1 v5 s.2 h) (v4, v6)
theorem f_M_ringsIn_l51_ok {g : xG} {l : Launch} {d : Nat} {v1 : Int32} {v2 : Int32} {v3 : Int32} {v4 : Int32} {v5 : Int32} {v6 : Int32} {h : xH} {o : ((Int32 × Int32) ⊕ ((Int32 × Int32) ⊕ Int32))} {R : Option xV} (hD : 1 ≤ d) (hf : f_M_ringsIn_l51 v1 v2 v3 v4 v5 v6 h = some o) (K1 : ∀ (w2 : Int32) (w3 : Int32), o = Sum.inr (Sum.inl (w2, w3)) → xEv g l d 224 4 [(0, xr 12 (some 0)), (1, xi v1), (2, xi w2), (3, xi w3)] [] h R h) (K2 : ∀ (w4 : Int32) (w5 : Int32), o = Sum.inl (w4, w5) → xEv g l d 224 41 [(0, xr 12 (some 0)), (1, xi v1), (2, xi v2), (3, xi v3), (4, xi w4), (5, xi w5)] [] h R h) (K0 : ∀ (a : Int32), o = Sum.inr (Sum.inr (a)) → R = some (xi a)) : xEv g l d 224 51 [(0, xr 12 (some 0)), (1, xi v1), (2, xi v2), (3, xi v3), (4, xi v4), (5, xi v5), (6, xi v6)] [] h R h := by
  obtain ⟨n, hn⟩ := whl_iff.mp hf
  clear hf
  induction n generalizing v4 v6 with
  | zero => cases hn
  | succ n ih =>
    obtain ⟨o2, hs, hn⟩ := lk_b (show (f_M_ringsIn_s51 v1 v2 v3 v4 v5 v6 h).bind (fun o => Sum.elim (itn _ n) some o) = some o from hn)
    exact f_M_ringsIn_s51_ok hD hs (fun u0 u1 e => K1 u0 u1 (by rw [e] at hn; exact (Option.some.inj hn).symm)) (fun u0 u1 e => K2 u0 u1 (by rw [e] at hn; exact (Option.some.inj hn).symm)) (fun u0 u1 e => ih (by rw [e] at hn; exact hn)) (fun u0 e => K0 u0 (by rw [e] at hn; exact (Option.some.inj hn).symm))
noncomputable def f_M_ringsIn_s41 (v1 : Int32) (v2 : Int32) (v3 : Int32) (v4 : Int32) (v5 : Int32) (h : xH) : Option ((Int32 × Int32) ⊕ ((Int32 × Int32) ⊕ Int32)) :=
  if (8 : Int32) ≤ v5 then (
  xup (f_M_ringsIn_b101 v1 v2 v3 v4 h)) else (
  f_M_ringsIn_l51 v1 v2 v3 v4 v5 (0 : Int32) h)
set_option maxHeartbeats 4000000 in
set_option maxRecDepth 100000 in
theorem f_M_ringsIn_s41_ok {g : xG} {l : Launch} {d : Nat} {v1 : Int32} {v2 : Int32} {v3 : Int32} {v4 : Int32} {v5 : Int32} {h : xH} {o : ((Int32 × Int32) ⊕ ((Int32 × Int32) ⊕ Int32))} {R : Option xV} (hD : 1 ≤ d) (hf : f_M_ringsIn_s41 v1 v2 v3 v4 v5 h = some o) (K1 : ∀ (w2 : Int32) (w3 : Int32), o = Sum.inr (Sum.inl (w2, w3)) → xEv g l d 224 4 [(0, xr 12 (some 0)), (1, xi v1), (2, xi w2), (3, xi w3)] [] h R h) (K2 : ∀ (w4 : Int32) (w5 : Int32), o = Sum.inl (w4, w5) → xEv g l d 224 41 [(0, xr 12 (some 0)), (1, xi v1), (2, xi v2), (3, xi v3), (4, xi w4), (5, xi w5)] [] h R h) (K0 : ∀ (a : Int32), o = Sum.inr (Sum.inr (a)) → R = some (xi a)) : xEv g l d 224 41 [(0, xr 12 (some 0)), (1, xi v1), (2, xi v2), (3, xi v3), (4, xi v4), (5, xi v5)] [] h R h := by
  unfold f_M_ringsIn_s41 at hf
  refine xs_iload d224_41 rfl ?_
  refine xs_bipush (v := 8) d224_43 (by decide) ?_
  rcases lk_if hf with ⟨hc8, hf⟩ | ⟨hc8, hf⟩
  · refine xs_icmp_ge (tgt := 101) d224_45 (by decide) (fun _ => ?_) (fun hn => absurd hc8 hn)
    refine xs_pick [0, 1, 2, 3, 4] rfl ?_
    obtain ⟨x0, hf, ex0⟩ := lk_up hf
    exact f_M_ringsIn_b101_ok hD hf (fun u0 u1 e => K1 u0 u1 (ex0.trans (congrArg Sum.inr e))) (fun u0 e => K0 u0 (ex0.trans (congrArg Sum.inr e)))
  · refine xs_icmp_ge (tgt := 101) d224_45 (by decide) (fun hp => absurd hp hc8) (fun _ => ?_)
    refine xs_iconst (v := 0) d224_48 (by decide) ?_
    refine xe_istore (v := (0 : Int32)) (ls2 := [(0, xr 12 (some 0)), (1, xi v1), (2, xi v2), (3, xi v3), (4, xi v4), (5, xi v5), (6, xi (0 : Int32))]) d224_49 mx224 (by decide) rfl rfl ?_
    exact f_M_ringsIn_l51_ok hD hf K1 K2 K0
noncomputable def f_M_ringsIn_l41 (v1 : Int32) (v2 : Int32) (v3 : Int32) (v4 : Int32) (v5 : Int32) (h : xH) : Option ((Int32 × Int32) ⊕ Int32) :=
  whl (fun s => f_M_ringsIn_s41 v1 v2 v3 s.1 s.2 h) (v4, v5)
theorem f_M_ringsIn_l41_ok {g : xG} {l : Launch} {d : Nat} {v1 : Int32} {v2 : Int32} {v3 : Int32} {v4 : Int32} {v5 : Int32} {h : xH} {o : ((Int32 × Int32) ⊕ Int32)} {R : Option xV} (hD : 1 ≤ d) (hf : f_M_ringsIn_l41 v1 v2 v3 v4 v5 h = some o) (K1 : ∀ (w2 : Int32) (w3 : Int32), o = Sum.inl (w2, w3) → xEv g l d 224 4 [(0, xr 12 (some 0)), (1, xi v1), (2, xi w2), (3, xi w3)] [] h R h) (K0 : ∀ (a : Int32), o = Sum.inr (a) → R = some (xi a)) : xEv g l d 224 41 [(0, xr 12 (some 0)), (1, xi v1), (2, xi v2), (3, xi v3), (4, xi v4), (5, xi v5)] [] h R h := by
  obtain ⟨n, hn⟩ := whl_iff.mp hf
  clear hf
  induction n generalizing v4 v5 with
  | zero => cases hn
  | succ n ih =>
    obtain ⟨o2, hs, hn⟩ := lk_b (show (f_M_ringsIn_s41 v1 v2 v3 v4 v5 h).bind (fun o => Sum.elim (itn _ n) some o) = some o from hn)
    exact f_M_ringsIn_s41_ok hD hs (fun u0 u1 e => K1 u0 u1 (by rw [e] at hn; exact (Option.some.inj hn).symm)) (fun u0 u1 e => ih (by rw [e] at hn; exact hn)) (fun u0 e => K0 u0 (by rw [e] at hn; exact (Option.some.inj hn).symm))
noncomputable def f_M_ringsIn_s4 (v1 : Int32) (v2 : Int32) (v3 : Int32) (h : xH) : Option ((Int32 × Int32) ⊕ Int32) :=
  if (h.2.2.2.1 56 0 ((3 : Int32)).toNatClampNeg) ≤ v3 then (
  some (Sum.inr (v2))) else (
  (f_M_isOf v1 v3 h).bind fun r2 =>
  if r2 = (0 : Int32) then (
  f_M_ringsIn_b116 v1 v2 v3 h) else (
  if xib ((36 : Int32) + v3) 101 then (
  xlet ((h.2.2.2.1 56 0 ((36 : Int32) + v3).toNatClampNeg) &&& v1) fun v4_7 =>
  f_M_ringsIn_l41 v1 v2 v3 v4_7 (0 : Int32) h) else none))
set_option maxHeartbeats 4000000 in
set_option maxRecDepth 100000 in
theorem f_M_ringsIn_s4_ok {g : xG} {l : Launch} {d : Nat} {v1 : Int32} {v2 : Int32} {v3 : Int32} {h : xH} {o : ((Int32 × Int32) ⊕ Int32)} {R : Option xV} (hD : 1 ≤ d) (hf : f_M_ringsIn_s4 v1 v2 v3 h = some o) (K1 : ∀ (w2 : Int32) (w3 : Int32), o = Sum.inl (w2, w3) → xEv g l d 224 4 [(0, xr 12 (some 0)), (1, xi v1), (2, xi w2), (3, xi w3)] [] h R h) (K0 : ∀ (a : Int32), o = Sum.inr (a) → R = some (xi a)) : xEv g l d 224 4 [(0, xr 12 (some 0)), (1, xi v1), (2, xi v2), (3, xi v3)] [] h R h := by
  unfold f_M_ringsIn_s4 at hf
  refine xs_iload_n d224_4 rfl ?_
  refine xs_aload_n d224_5 rfl ?_
  refine xe_getc (j := 0) d224_6 ky224 fl181 fk12_20 rfl ?_
  refine xs_iconst (v := 3) d224_9 (by decide) ?_
  refine xe_iald d224_10 (by decide) ak56 (show xib (3 : Int32) 101 by decide) ?_
  rcases lk_if hf with ⟨hc1, hf⟩ | ⟨hc1, hf⟩
  · refine xs_icmp_ge (tgt := 122) d224_11 (by decide) (fun _ => ?_) (fun hn => absurd hc1 hn)
    refine xs_iload_n d224_122 rfl ?_
    obtain eR := K0 _ (Option.some.inj hf).symm
    subst eR
    exact xs_iret d224_123 rt224
  · refine xs_icmp_ge (tgt := 122) d224_11 (by decide) (fun hp => absurd hp hc1) (fun _ => ?_)
    refine xs_iload_n d224_14 rfl ?_
    refine xs_iload_n d224_15 rfl ?_
    obtain ⟨r2, hc3, hf⟩ := lk_b hf
    refine xe_calls1 (as := [xi v1, xi v3]) (st := []) (h2 := h) (d2 := d - 1) d224_16 ky224 ml233 st140 rfl na140 (Nat.le_of_ble_eq_true rfl) (by omega) (f_M_isOf_ok (by omega) hc3) ?_
    rcases lk_if hf with ⟨hc4, hf⟩ | ⟨hc4, hf⟩
    · refine xs_if_ne (tgt := 25) d224_19 (by decide) (fun _ => ?_) (fun hn => absurd hc4 hn)
      refine xs_goto (tgt := 116) d224_22 (by decide) ?_
      exact f_M_ringsIn_b116_ok hD hf K1 K0
    · refine xs_if_ne (tgt := 25) d224_19 (by decide) (fun hp => absurd hp hc4) (fun _ => ?_)
      refine xs_aload_n d224_25 rfl ?_
      refine xe_getc (j := 0) d224_26 ky224 fl181 fk12_20 rfl ?_
      refine xs_bipush (v := 36) d224_29 (by decide) ?_
      refine xs_iload_n d224_31 rfl ?_
      refine xs_iadd d224_32 ?_
      obtain ⟨hin6, hf⟩ := lk_g hf
      refine xe_iald d224_33 (by decide) ak56 hin6 ?_
      refine xs_iload_n d224_34 rfl ?_
      refine xs_iand d224_35 ?_
      obtain ⟨v4_7, ev4_7, hf⟩ := lk_let hf
      refine xe_istore (v := v4_7) (ls2 := [(0, xr 12 (some 0)), (1, xi v1), (2, xi v2), (3, xi v3), (4, xi v4_7)]) d224_36 mx224 (by decide) ev4_7 rfl ?_
      refine xs_iconst (v := 0) d224_38 (by decide) ?_
      refine xe_istore (v := (0 : Int32)) (ls2 := [(0, xr 12 (some 0)), (1, xi v1), (2, xi v2), (3, xi v3), (4, xi v4_7), (5, xi (0 : Int32))]) d224_39 mx224 (by decide) rfl rfl ?_
      exact f_M_ringsIn_l41_ok hD hf K1 K0
noncomputable def f_M_ringsIn_l4 (v1 : Int32) (v2 : Int32) (v3 : Int32) (h : xH) : Option Int32 :=
  whl (fun s => f_M_ringsIn_s4 v1 s.1 s.2 h) (v2, v3)
theorem f_M_ringsIn_l4_ok {g : xG} {l : Launch} {d : Nat} {v1 : Int32} {v2 : Int32} {v3 : Int32} {h : xH} {o : Int32} {R : Option xV} (hD : 1 ≤ d) (hf : f_M_ringsIn_l4 v1 v2 v3 h = some o) (K0 : ∀ (a : Int32), o = a → R = some (xi a)) : xEv g l d 224 4 [(0, xr 12 (some 0)), (1, xi v1), (2, xi v2), (3, xi v3)] [] h R h := by
  obtain ⟨n, hn⟩ := whl_iff.mp hf
  clear hf
  induction n generalizing v2 v3 with
  | zero => cases hn
  | succ n ih =>
    obtain ⟨o2, hs, hn⟩ := lk_b (show (f_M_ringsIn_s4 v1 v2 v3 h).bind (fun o => Sum.elim (itn _ n) some o) = some o from hn)
    exact f_M_ringsIn_s4_ok hD hs (fun u0 u1 e => ih (by rw [e] at hn; exact hn)) (fun u0 e => K0 u0 (by rw [e] at hn; exact (Option.some.inj hn).symm))
noncomputable def f_M_ringsIn_e (v1 : Int32) (h : xH) : Option Int32 :=
  f_M_ringsIn_l4 v1 (0 : Int32) (0 : Int32) h
set_option maxHeartbeats 4000000 in
set_option maxRecDepth 100000 in
theorem f_M_ringsIn_e_ok {g : xG} {l : Launch} {d : Nat} {v1 : Int32} {h : xH} {o : Int32} {R : Option xV} (hD : 1 ≤ d) (hf : f_M_ringsIn_e v1 h = some o) (K0 : ∀ (a : Int32), o = a → R = some (xi a)) : xEv g l d 224 0 [(0, xr 12 (some 0)), (1, xi v1)] [] h R h := by
  unfold f_M_ringsIn_e at hf
  refine xs_iconst (v := 0) d224_0 (by decide) ?_
  refine xe_istore_n (v := (0 : Int32)) (ls2 := [(0, xr 12 (some 0)), (1, xi v1), (2, xi (0 : Int32))]) d224_1 mx224 (by decide) rfl rfl ?_
  refine xs_iconst (v := 0) d224_2 (by decide) ?_
  refine xe_istore_n (v := (0 : Int32)) (ls2 := [(0, xr 12 (some 0)), (1, xi v1), (2, xi (0 : Int32)), (3, xi (0 : Int32))]) d224_3 mx224 (by decide) rfl rfl ?_
  exact f_M_ringsIn_l4_ok hD hf K0
noncomputable def f_M_ringsIn (v1 : Int32) (h : xH) : Option Int32 := f_M_ringsIn_e v1 h
theorem f_M_ringsIn_ok {g : xG} {l : Launch} {d : Nat} {v1 : Int32} {h : xH} {r : Int32} (hD : 1 ≤ d) (hf : f_M_ringsIn v1 h = some r) : xC g l d 224 [xr 12 (some 0), xi v1] h (some (xi r)) h :=
  xC_of2 (by decide) mx224 (Nat.le_of_ble_eq_true rfl) (f_M_ringsIn_e_ok hD hf (fun _ e => by rw [e]))
theorem d225_0 : decode (xcode 225) 0 = .ok (.aload_n 0, 1) := by decide +kernel
theorem d225_1 : decode (xcode 225) 1 = .ok (.invokevirtual 349, 3) := by decide +kernel
theorem d225_4 : decode (xcode 225) 4 = .ok (.ifCond .eq 14, 3) := by decide +kernel
theorem d225_7 : decode (xcode 225) 7 = .ok (.aload_n 0, 1) := by decide +kernel
theorem d225_8 : decode (xcode 225) 8 = .ok (.aload_n 0, 1) := by decide +kernel
theorem d225_9 : decode (xcode 225) 9 = .ok (.invokevirtual 295, 3) := by decide +kernel
theorem d225_12 : decode (xcode 225) 12 = .ok (.invokevirtual 402, 3) := by decide +kernel
theorem d225_15 : decode (xcode 225) 15 = .ok (.goto 4, 3) := by decide +kernel
theorem d225_18 : decode (xcode 225) 18 = .ok (.iconst (-1), 1) := by decide +kernel
theorem d225_19 : decode (xcode 225) 19 = .ok (.ireturn, 1) := by decide +kernel
noncomputable def f_M_rings_e (h : xH) : Option Int32 :=
  (f_M_isTrug h).bind fun r1 =>
  if r1 = (0 : Int32) then (
  some ((-1 : Int32))) else (
  (f_M_inside h).bind fun r4 =>
  (f_M_ringsIn r4 h).bind fun r6 =>
  some (r6))
set_option maxHeartbeats 4000000 in
set_option maxRecDepth 100000 in
theorem f_M_rings_e_ok {g : xG} {l : Launch} {d : Nat} {h : xH} {o : Int32} {R : Option xV} (hD : 3 ≤ d) (hf : f_M_rings_e h = some o) (K0 : ∀ (a : Int32), o = a → R = some (xi a)) : xEv g l d 225 0 [(0, xr 12 (some 0))] [] h R h := by
  unfold f_M_rings_e at hf
  refine xs_aload_n d225_0 rfl ?_
  obtain ⟨r1, hc2, hf⟩ := lk_b hf
  refine xe_callv1 (as := []) (st := []) (h2 := h) (d2 := d - 1) d225_1 ky225 ml225 st184 (by decide) cn184 rfl na184 (Nat.le_of_ble_eq_true rfl) (by omega) (f_M_isTrug_ok (by omega) hc2) ?_
  rcases lk_if hf with ⟨hc3, hf⟩ | ⟨hc3, hf⟩
  · refine xs_if_eq (tgt := 18) d225_4 (by decide) (fun _ => ?_) (fun hn => absurd hc3 hn)
    refine xs_iconst (v := -1) d225_18 (by decide) ?_
    obtain eR := K0 _ (Option.some.inj hf).symm
    subst eR
    exact xs_iret d225_19 rt225
  · refine xs_if_eq (tgt := 18) d225_4 (by decide) (fun hp => absurd hp hc3) (fun _ => ?_)
    refine xs_aload_n d225_7 rfl ?_
    refine xs_aload_n d225_8 rfl ?_
    obtain ⟨r4, hc5, hf⟩ := lk_b hf
    refine xe_callv1 (as := []) (st := [xr 12 (some 0)]) (h2 := h) (d2 := d - 1) d225_9 ky225 ml231 st187 (by decide) cn187 rfl na187 (Nat.le_of_ble_eq_true rfl) (by omega) (f_M_inside_ok (by omega) hc5) ?_
    obtain ⟨r6, hc7, hf⟩ := lk_b hf
    refine xe_callv1 (as := [xi r4]) (st := []) (h2 := h) (d2 := d - 1) d225_12 ky225 ml265 st224 (by decide) cn224 rfl na224 (Nat.le_of_ble_eq_true rfl) (by omega) (f_M_ringsIn_ok (by omega) hc7) ?_
    refine xs_goto (tgt := 19) d225_15 (by decide) ?_
    obtain eR := K0 _ (Option.some.inj hf).symm
    subst eR
    exact xs_iret d225_19 rt225
noncomputable def f_M_rings (h : xH) : Option Int32 := f_M_rings_e h
theorem f_M_rings_ok {g : xG} {l : Launch} {d : Nat} {h : xH} {r : Int32} (hD : 3 ≤ d) (hf : f_M_rings h = some r) : xC g l d 225 [xr 12 (some 0)] h (some (xi r)) h :=
  xC_of2 (by decide) mx225 (Nat.le_of_ble_eq_true rfl) (f_M_rings_e_ok hD hf (fun _ e => by rw [e]))
theorem d226_0 : decode (xcode 226) 0 = .ok (.aload_n 0, 1) := by decide +kernel
theorem d226_1 : decode (xcode 226) 1 = .ok (.invokevirtual 349, 3) := by decide +kernel
theorem d226_4 : decode (xcode 226) 4 = .ok (.ifCond .eq 13, 3) := by decide +kernel
theorem d226_7 : decode (xcode 226) 7 = .ok (.iload_n 1, 1) := by decide +kernel
theorem d226_8 : decode (xcode 226) 8 = .ok (.i2l, 1) := by decide +kernel
theorem d226_9 : decode (xcode 226) 9 = .ok (.lconst 0, 1) := by decide +kernel
theorem d226_10 : decode (xcode 226) 10 = .ok (.lconst 1, 1) := by decide +kernel
theorem d226_11 : decode (xcode 226) 11 = .ok (.invokestatic 124, 3) := by decide +kernel
theorem d226_14 : decode (xcode 226) 14 = .ok (.ifCond .ne 5, 3) := by decide +kernel
theorem d226_17 : decode (xcode 226) 17 = .ok (.iconst (-1), 1) := by decide +kernel
theorem d226_18 : decode (xcode 226) 18 = .ok (.ireturn, 1) := by decide +kernel
theorem d226_19 : decode (xcode 226) 19 = .ok (.aload_n 0, 1) := by decide +kernel
theorem d226_20 : decode (xcode 226) 20 = .ok (.invokevirtual 295, 3) := by decide +kernel
theorem d226_23 : decode (xcode 226) 23 = .ok (.istore_n 2, 1) := by decide +kernel
theorem d226_24 : decode (xcode 226) 24 = .ok (.iconst (-1), 1) := by decide +kernel
theorem d226_25 : decode (xcode 226) 25 = .ok (.istore_n 3, 1) := by decide +kernel
theorem d226_26 : decode (xcode 226) 26 = .ok (.iconst 0, 1) := by decide +kernel
theorem d226_27 : decode (xcode 226) 27 = .ok (.istore 4, 2) := by decide +kernel
theorem d226_29 : decode (xcode 226) 29 = .ok (.iload 4, 2) := by decide +kernel
theorem d226_31 : decode (xcode 226) 31 = .ok (.iload_n 2, 1) := by decide +kernel
theorem d226_32 : decode (xcode 226) 32 = .ok (.if_icmp .gt 53, 3) := by decide +kernel
theorem d226_35 : decode (xcode 226) 35 = .ok (.iload 4, 2) := by decide +kernel
theorem d226_37 : decode (xcode 226) 37 = .ok (.iload_n 2, 1) := by decide +kernel
theorem d226_38 : decode (xcode 226) 38 = .ok (.iconst (-1), 1) := by decide +kernel
theorem d226_39 : decode (xcode 226) 39 = .ok (.ixor, 1) := by decide +kernel
theorem d226_40 : decode (xcode 226) 40 = .ok (.iand, 1) := by decide +kernel
theorem d226_41 : decode (xcode 226) 41 = .ok (.ifCond .ne 38, 3) := by decide +kernel
theorem d226_44 : decode (xcode 226) 44 = .ok (.iload_n 3, 1) := by decide +kernel
theorem d226_45 : decode (xcode 226) 45 = .ok (.ifCond .lt 18, 3) := by decide +kernel
theorem d226_48 : decode (xcode 226) 48 = .ok (.iload 4, 2) := by decide +kernel
theorem d226_50 : decode (xcode 226) 50 = .ok (.invokestatic 318, 3) := by decide +kernel
theorem d226_53 : decode (xcode 226) 53 = .ok (.iload_n 3, 1) := by decide +kernel
theorem d226_54 : decode (xcode 226) 54 = .ok (.invokestatic 318, 3) := by decide +kernel
theorem d226_57 : decode (xcode 226) 57 = .ok (.if_icmp .lt 6, 3) := by decide +kernel
theorem d226_60 : decode (xcode 226) 60 = .ok (.goto 19, 3) := by decide +kernel
theorem d226_63 : decode (xcode 226) 63 = .ok (.aload_n 0, 1) := by decide +kernel
theorem d226_64 : decode (xcode 226) 64 = .ok (.iload_n 2, 1) := by decide +kernel
theorem d226_65 : decode (xcode 226) 65 = .ok (.iload 4, 2) := by decide +kernel
theorem d226_67 : decode (xcode 226) 67 = .ok (.iconst (-1), 1) := by decide +kernel
theorem d226_68 : decode (xcode 226) 68 = .ok (.ixor, 1) := by decide +kernel
theorem d226_69 : decode (xcode 226) 69 = .ok (.iand, 1) := by decide +kernel
theorem d226_70 : decode (xcode 226) 70 = .ok (.invokevirtual 402, 3) := by decide +kernel
theorem d226_73 : decode (xcode 226) 73 = .ok (.ifCond .ne 6, 3) := by decide +kernel
theorem d226_76 : decode (xcode 226) 76 = .ok (.iload 4, 2) := by decide +kernel
theorem d226_78 : decode (xcode 226) 78 = .ok (.istore_n 3, 1) := by decide +kernel
theorem d226_79 : decode (xcode 226) 79 = .ok (.iinc 4 1, 3) := by decide +kernel
theorem d226_82 : decode (xcode 226) 82 = .ok (.goto (-53), 3) := by decide +kernel
theorem d226_85 : decode (xcode 226) 85 = .ok (.iload_n 1, 1) := by decide +kernel
theorem d226_86 : decode (xcode 226) 86 = .ok (.ifCond .ne 10, 3) := by decide +kernel
theorem d226_89 : decode (xcode 226) 89 = .ok (.iload_n 3, 1) := by decide +kernel
theorem d226_90 : decode (xcode 226) 90 = .ok (.invokestatic 318, 3) := by decide +kernel
theorem d226_93 : decode (xcode 226) 93 = .ok (.goto 4, 3) := by decide +kernel
theorem d226_96 : decode (xcode 226) 96 = .ok (.iload_n 3, 1) := by decide +kernel
theorem d226_97 : decode (xcode 226) 97 = .ok (.ireturn, 1) := by decide +kernel
noncomputable def f_M_taken_b85 (v1 : Int32) (v3 : Int32) (h : xH) : Option Int32 :=
  if v1 = (0 : Int32) then (
  (f_M_bits v3 h).bind fun r11 =>
  some (r11)) else (
  some (v3))
set_option maxHeartbeats 4000000 in
set_option maxRecDepth 100000 in
theorem f_M_taken_b85_ok {g : xG} {l : Launch} {d : Nat} {v1 : Int32} {v3 : Int32} {h : xH} {o : Int32} {R : Option xV} (hD : 3 ≤ d) (hf : f_M_taken_b85 v1 v3 h = some o) (K0 : ∀ (a : Int32), o = a → R = some (xi a)) : xEv g l d 226 85 [(1, xi v1), (3, xi v3)] [] h R h := by
  unfold f_M_taken_b85 at hf
  refine xs_iload_n d226_85 rfl ?_
  rcases lk_if hf with ⟨hc10, hf⟩ | ⟨hc10, hf⟩
  · refine xs_if_ne (tgt := 96) d226_86 (by decide) (fun _ => ?_) (fun hn => absurd hc10 hn)
    refine xs_iload_n d226_89 rfl ?_
    obtain ⟨r11, hc12, hf⟩ := lk_b hf
    refine xe_calls1 (as := [xi v3]) (st := []) (h2 := h) (d2 := d - 1) d226_90 ky226 ml234 st141 rfl na141 (Nat.le_of_ble_eq_true rfl) (by omega) (f_M_bits_ok (by omega) hc12) ?_
    refine xs_goto (tgt := 97) d226_93 (by decide) ?_
    obtain eR := K0 _ (Option.some.inj hf).symm
    subst eR
    exact xs_iret d226_97 rt226
  · refine xs_if_ne (tgt := 96) d226_86 (by decide) (fun hp => absurd hp hc10) (fun _ => ?_)
    refine xs_iload_n d226_96 rfl ?_
    obtain eR := K0 _ (Option.some.inj hf).symm
    subst eR
    exact xs_iret d226_97 rt226
noncomputable def f_M_taken_b79 (v1 : Int32) (v2 : Int32) (v3 : Int32) (v4 : Int32) (h : xH) : Option ((Int32 × Int32) ⊕ Int32) :=
  xlet (v4 + (1 : Int32)) fun v4_18 =>
  some (Sum.inl (v3, v4_18))
set_option maxHeartbeats 4000000 in
set_option maxRecDepth 100000 in
theorem f_M_taken_b79_ok {g : xG} {l : Launch} {d : Nat} {v1 : Int32} {v2 : Int32} {v3 : Int32} {v4 : Int32} {h : xH} {o : ((Int32 × Int32) ⊕ Int32)} {R : Option xV} (hD : 3 ≤ d) (hf : f_M_taken_b79 v1 v2 v3 v4 h = some o) (K1 : ∀ (w3 : Int32) (w4 : Int32), o = Sum.inl (w3, w4) → xEv g l d 226 29 [(0, xr 12 (some 0)), (1, xi v1), (2, xi v2), (3, xi w3), (4, xi w4)] [] h R h) (K0 : ∀ (a : Int32), o = Sum.inr (a) → R = some (xi a)) : xEv g l d 226 79 [(0, xr 12 (some 0)), (1, xi v1), (2, xi v2), (3, xi v3), (4, xi v4)] [] h R h := by
  unfold f_M_taken_b79 at hf
  obtain ⟨v4_18, ev4_18, hf⟩ := lk_let hf
  refine xe_iinc (v := v4_18) (b := 1) (ls2 := [(0, xr 12 (some 0)), (1, xi v1), (2, xi v2), (3, xi v3), (4, xi v4_18)]) d226_79 mx226 (by decide) rfl (by decide) ev4_18 rfl ?_
  refine xs_goto (tgt := 29) d226_82 (by decide) ?_
  exact K1 _ _ (Option.some.inj hf).symm
noncomputable def f_M_taken_b63 (v1 : Int32) (v2 : Int32) (v3 : Int32) (v4 : Int32) (h : xH) : Option ((Int32 × Int32) ⊕ Int32) :=
  (f_M_ringsIn (v2 &&& (v4 ^^^ (-1 : Int32))) h).bind fun r15 =>
  if r15 = (0 : Int32) then (
  f_M_taken_b79 v1 v2 v4 v4 h) else (
  f_M_taken_b79 v1 v2 v3 v4 h)
set_option maxHeartbeats 4000000 in
set_option maxRecDepth 100000 in
theorem f_M_taken_b63_ok {g : xG} {l : Launch} {d : Nat} {v1 : Int32} {v2 : Int32} {v3 : Int32} {v4 : Int32} {h : xH} {o : ((Int32 × Int32) ⊕ Int32)} {R : Option xV} (hD : 3 ≤ d) (hf : f_M_taken_b63 v1 v2 v3 v4 h = some o) (K1 : ∀ (w3 : Int32) (w4 : Int32), o = Sum.inl (w3, w4) → xEv g l d 226 29 [(0, xr 12 (some 0)), (1, xi v1), (2, xi v2), (3, xi w3), (4, xi w4)] [] h R h) (K0 : ∀ (a : Int32), o = Sum.inr (a) → R = some (xi a)) : xEv g l d 226 63 [(0, xr 12 (some 0)), (1, xi v1), (2, xi v2), (3, xi v3), (4, xi v4)] [] h R h := by
  unfold f_M_taken_b63 at hf
  refine xs_aload_n d226_63 rfl ?_
  refine xs_iload_n d226_64 rfl ?_
  refine xs_iload d226_65 rfl ?_
  refine xs_iconst (v := -1) d226_67 (by decide) ?_
  refine xs_ixor d226_68 ?_
  refine xs_iand d226_69 ?_
  obtain ⟨r15, hc16, hf⟩ := lk_b hf
  refine xe_callv1 (as := [xi (v2 &&& (v4 ^^^ (-1 : Int32)))]) (st := []) (h2 := h) (d2 := d - 1) d226_70 ky226 ml265 st224 (by decide) cn224 rfl na224 (Nat.le_of_ble_eq_true rfl) (by omega) (f_M_ringsIn_ok (by omega) hc16) ?_
  rcases lk_if hf with ⟨hc17, hf⟩ | ⟨hc17, hf⟩
  · refine xs_if_ne (tgt := 79) d226_73 (by decide) (fun _ => ?_) (fun hn => absurd hc17 hn)
    refine xs_iload d226_76 rfl ?_
    refine xe_istore_n (v := v4) (ls2 := [(0, xr 12 (some 0)), (1, xi v1), (2, xi v2), (3, xi v4), (4, xi v4)]) d226_78 mx226 (by decide) rfl rfl ?_
    exact f_M_taken_b79_ok hD hf K1 K0
  · refine xs_if_ne (tgt := 79) d226_73 (by decide) (fun hp => absurd hp hc17) (fun _ => ?_)
    exact f_M_taken_b79_ok hD hf K1 K0
noncomputable def f_M_taken_s29 (v1 : Int32) (v2 : Int32) (v3 : Int32) (v4 : Int32) (h : xH) : Option ((Int32 × Int32) ⊕ Int32) :=
  if v2 < v4 then (
  xup (f_M_taken_b85 v1 v3 h)) else (
  if (v4 &&& (v2 ^^^ (-1 : Int32))) = (0 : Int32) then (
  if v3 < (0 : Int32) then (
  f_M_taken_b63 v1 v2 v3 v4 h) else (
  (f_M_bits v4 h).bind fun r19 =>
  (f_M_bits v3 h).bind fun r21 =>
  if r19 < r21 then (
  f_M_taken_b63 v1 v2 v3 v4 h) else (
  f_M_taken_b79 v1 v2 v3 v4 h))) else (
  f_M_taken_b79 v1 v2 v3 v4 h))
set_option maxHeartbeats 4000000 in
set_option maxRecDepth 100000 in
theorem f_M_taken_s29_ok {g : xG} {l : Launch} {d : Nat} {v1 : Int32} {v2 : Int32} {v3 : Int32} {v4 : Int32} {h : xH} {o : ((Int32 × Int32) ⊕ Int32)} {R : Option xV} (hD : 3 ≤ d) (hf : f_M_taken_s29 v1 v2 v3 v4 h = some o) (K1 : ∀ (w3 : Int32) (w4 : Int32), o = Sum.inl (w3, w4) → xEv g l d 226 29 [(0, xr 12 (some 0)), (1, xi v1), (2, xi v2), (3, xi w3), (4, xi w4)] [] h R h) (K0 : ∀ (a : Int32), o = Sum.inr (a) → R = some (xi a)) : xEv g l d 226 29 [(0, xr 12 (some 0)), (1, xi v1), (2, xi v2), (3, xi v3), (4, xi v4)] [] h R h := by
  unfold f_M_taken_s29 at hf
  refine xs_iload d226_29 rfl ?_
  refine xs_iload_n d226_31 rfl ?_
  rcases lk_if hf with ⟨hc9, hf⟩ | ⟨hc9, hf⟩
  · refine xs_icmp_gt (tgt := 85) d226_32 (by decide) (fun _ => ?_) (fun hn => absurd hc9 hn)
    refine xs_pick [1, 3] rfl ?_
    obtain ⟨x0, hf, ex0⟩ := lk_up hf
    exact f_M_taken_b85_ok hD hf (fun u0 e => K0 u0 (ex0.trans (congrArg Sum.inr e)))
  · refine xs_icmp_gt (tgt := 85) d226_32 (by decide) (fun hp => absurd hp hc9) (fun _ => ?_)
    refine xs_iload d226_35 rfl ?_
    refine xs_iload_n d226_37 rfl ?_
    refine xs_iconst (v := -1) d226_38 (by decide) ?_
    refine xs_ixor d226_39 ?_
    refine xs_iand d226_40 ?_
    rcases lk_if hf with ⟨hc13, hf⟩ | ⟨hc13, hf⟩
    · refine xs_if_ne (tgt := 79) d226_41 (by decide) (fun _ => ?_) (fun hn => absurd hc13 hn)
      refine xs_iload_n d226_44 rfl ?_
      rcases lk_if hf with ⟨hc14, hf⟩ | ⟨hc14, hf⟩
      · refine xs_if_lt (tgt := 63) d226_45 (by decide) (fun _ => ?_) (fun hn => absurd hc14 hn)
        exact f_M_taken_b63_ok hD hf K1 K0
      · refine xs_if_lt (tgt := 63) d226_45 (by decide) (fun hp => absurd hp hc14) (fun _ => ?_)
        refine xs_iload d226_48 rfl ?_
        obtain ⟨r19, hc20, hf⟩ := lk_b hf
        refine xe_calls1 (as := [xi v4]) (st := []) (h2 := h) (d2 := d - 1) d226_50 ky226 ml234 st141 rfl na141 (Nat.le_of_ble_eq_true rfl) (by omega) (f_M_bits_ok (by omega) hc20) ?_
        refine xs_iload_n d226_53 rfl ?_
        obtain ⟨r21, hc22, hf⟩ := lk_b hf
        refine xe_calls1 (as := [xi v3]) (st := [xi r19]) (h2 := h) (d2 := d - 1) d226_54 ky226 ml234 st141 rfl na141 (Nat.le_of_ble_eq_true rfl) (by omega) (f_M_bits_ok (by omega) hc22) ?_
        rcases lk_if hf with ⟨hc23, hf⟩ | ⟨hc23, hf⟩
        · refine xs_icmp_lt (tgt := 63) d226_57 (by decide) (fun _ => ?_) (fun hn => absurd hc23 hn)
          exact f_M_taken_b63_ok hD hf K1 K0
        · refine xs_icmp_lt (tgt := 63) d226_57 (by decide) (fun hp => absurd hp hc23) (fun _ => ?_)
          refine xs_goto (tgt := 79) d226_60 (by decide) ?_
          exact f_M_taken_b79_ok hD hf K1 K0
    · refine xs_if_ne (tgt := 79) d226_41 (by decide) (fun hp => absurd hp hc13) (fun _ => ?_)
      exact f_M_taken_b79_ok hD hf K1 K0
noncomputable def f_M_taken_l29 (v1 : Int32) (v2 : Int32) (v3 : Int32) (v4 : Int32) (h : xH) : Option Int32 :=
  whl (fun s => f_M_taken_s29 v1 v2 s.1 s.2 h) (v3, v4)
theorem f_M_taken_l29_ok {g : xG} {l : Launch} {d : Nat} {v1 : Int32} {v2 : Int32} {v3 : Int32} {v4 : Int32} {h : xH} {o : Int32} {R : Option xV} (hD : 3 ≤ d) (hf : f_M_taken_l29 v1 v2 v3 v4 h = some o) (K0 : ∀ (a : Int32), o = a → R = some (xi a)) : xEv g l d 226 29 [(0, xr 12 (some 0)), (1, xi v1), (2, xi v2), (3, xi v3), (4, xi v4)] [] h R h := by
  obtain ⟨n, hn⟩ := whl_iff.mp hf
  clear hf
  induction n generalizing v3 v4 with
  | zero => cases hn
  | succ n ih =>
    obtain ⟨o2, hs, hn⟩ := lk_b (show (f_M_taken_s29 v1 v2 v3 v4 h).bind (fun o => Sum.elim (itn _ n) some o) = some o from hn)
    exact f_M_taken_s29_ok hD hs (fun u0 u1 e => ih (by rw [e] at hn; exact hn)) (fun u0 e => K0 u0 (by rw [e] at hn; exact (Option.some.inj hn).symm))
noncomputable def f_M_taken_e (v1 : Int32) (h : xH) : Option Int32 :=
  (f_M_isTrug h).bind fun r1 =>
  if r1 = (0 : Int32) then (
  some ((-1 : Int32))) else (
  (f_M_in ((v1).toInt64) (0 : Int64) (1 : Int64) h).bind fun r4 =>
  if r4 = (0 : Int32) then (
  some ((-1 : Int32))) else (
  (f_M_inside h).bind fun r7 =>
  f_M_taken_l29 v1 r7 (-1 : Int32) (0 : Int32) h))
set_option maxHeartbeats 4000000 in
set_option maxRecDepth 100000 in
theorem f_M_taken_e_ok {g : xG} {l : Launch} {d : Nat} {v1 : Int32} {h : xH} {o : Int32} {R : Option xV} (hD : 3 ≤ d) (hf : f_M_taken_e v1 h = some o) (K0 : ∀ (a : Int32), o = a → R = some (xi a)) : xEv g l d 226 0 [(0, xr 12 (some 0)), (1, xi v1)] [] h R h := by
  unfold f_M_taken_e at hf
  refine xs_aload_n d226_0 rfl ?_
  obtain ⟨r1, hc2, hf⟩ := lk_b hf
  refine xe_callv1 (as := []) (st := []) (h2 := h) (d2 := d - 1) d226_1 ky226 ml225 st184 (by decide) cn184 rfl na184 (Nat.le_of_ble_eq_true rfl) (by omega) (f_M_isTrug_ok (by omega) hc2) ?_
  rcases lk_if hf with ⟨hc3, hf⟩ | ⟨hc3, hf⟩
  · refine xs_if_eq (tgt := 17) d226_4 (by decide) (fun _ => ?_) (fun hn => absurd hc3 hn)
    refine xs_iconst (v := -1) d226_17 (by decide) ?_
    obtain eR := K0 _ (Option.some.inj hf).symm
    subst eR
    exact xs_iret d226_18 rt226
  · refine xs_if_eq (tgt := 17) d226_4 (by decide) (fun hp => absurd hp hc3) (fun _ => ?_)
    refine xs_iload_n d226_7 rfl ?_
    refine xs_i2l d226_8 ?_
    refine xs_lconst (v := 0) d226_9 (by decide) ?_
    refine xs_lconst (v := 1) d226_10 (by decide) ?_
    obtain ⟨r4, hc5, hf⟩ := lk_b hf
    refine xe_calls1 (as := [xl ((v1).toInt64), xl (0 : Int64), xl (1 : Int64)]) (st := []) (h2 := h) (d2 := d - 1) d226_11 ky226 ml196 st139 rfl na139 (Nat.le_of_ble_eq_true rfl) (by omega) (f_M_in_ok (by omega) hc5) ?_
    rcases lk_if hf with ⟨hc6, hf⟩ | ⟨hc6, hf⟩
    · refine xs_if_ne (tgt := 19) d226_14 (by decide) (fun _ => ?_) (fun hn => absurd hc6 hn)
      refine xs_iconst (v := -1) d226_17 (by decide) ?_
      obtain eR := K0 _ (Option.some.inj hf).symm
      subst eR
      exact xs_iret d226_18 rt226
    · refine xs_if_ne (tgt := 19) d226_14 (by decide) (fun hp => absurd hp hc6) (fun _ => ?_)
      refine xs_aload_n d226_19 rfl ?_
      obtain ⟨r7, hc8, hf⟩ := lk_b hf
      refine xe_callv1 (as := []) (st := []) (h2 := h) (d2 := d - 1) d226_20 ky226 ml231 st187 (by decide) cn187 rfl na187 (Nat.le_of_ble_eq_true rfl) (by omega) (f_M_inside_ok (by omega) hc8) ?_
      refine xe_istore_n (v := r7) (ls2 := [(0, xr 12 (some 0)), (1, xi v1), (2, xi r7)]) d226_23 mx226 (by decide) rfl rfl ?_
      refine xs_iconst (v := -1) d226_24 (by decide) ?_
      refine xe_istore_n (v := (-1 : Int32)) (ls2 := [(0, xr 12 (some 0)), (1, xi v1), (2, xi r7), (3, xi (-1 : Int32))]) d226_25 mx226 (by decide) rfl rfl ?_
      refine xs_iconst (v := 0) d226_26 (by decide) ?_
      refine xe_istore (v := (0 : Int32)) (ls2 := [(0, xr 12 (some 0)), (1, xi v1), (2, xi r7), (3, xi (-1 : Int32)), (4, xi (0 : Int32))]) d226_27 mx226 (by decide) rfl rfl ?_
      exact f_M_taken_l29_ok hD hf K0
noncomputable def f_M_taken (v1 : Int32) (h : xH) : Option Int32 := f_M_taken_e v1 h
theorem f_M_taken_ok {g : xG} {l : Launch} {d : Nat} {v1 : Int32} {h : xH} {r : Int32} (hD : 3 ≤ d) (hf : f_M_taken v1 h = some r) : xC g l d 226 [xr 12 (some 0), xi v1] h (some (xi r)) h :=
  xC_of2 (by decide) mx226 (Nat.le_of_ble_eq_true rfl) (f_M_taken_e_ok hD hf (fun _ e => by rw [e]))
theorem d227_0 : decode (xcode 227) 0 = .ok (.iconst 0, 1) := by decide +kernel
theorem d227_1 : decode (xcode 227) 1 = .ok (.istore_n 2, 1) := by decide +kernel
theorem d227_2 : decode (xcode 227) 2 = .ok (.iload_n 2, 1) := by decide +kernel
theorem d227_3 : decode (xcode 227) 3 = .ok (.bipush 100, 2) := by decide +kernel
theorem d227_5 : decode (xcode 227) 5 = .ok (.if_icmp .ge 36, 3) := by decide +kernel
theorem d227_8 : decode (xcode 227) 8 = .ok (.aload_n 0, 1) := by decide +kernel
theorem d227_9 : decode (xcode 227) 9 = .ok (.invokevirtual 346, 3) := by decide +kernel
theorem d227_12 : decode (xcode 227) 12 = .ok (.iload_n 1, 1) := by decide +kernel
theorem d227_13 : decode (xcode 227) 13 = .ok (.if_icmp .ne 22, 3) := by decide +kernel
theorem d227_16 : decode (xcode 227) 16 = .ok (.aload_n 0, 1) := by decide +kernel
theorem d227_17 : decode (xcode 227) 17 = .ok (.getfield 39, 3) := by decide +kernel
theorem d227_20 : decode (xcode 227) 20 = .ok (.bipush 12, 2) := by decide +kernel
theorem d227_22 : decode (xcode 227) 22 = .ok (.iload_n 1, 1) := by decide +kernel
theorem d227_23 : decode (xcode 227) 23 = .ok (.iadd, 1) := by decide +kernel
theorem d227_24 : decode (xcode 227) 24 = .ok (.iaload, 1) := by decide +kernel
theorem d227_25 : decode (xcode 227) 25 = .ok (.iconst 1, 1) := by decide +kernel
theorem d227_26 : decode (xcode 227) 26 = .ok (.if_icmp .ne 7, 3) := by decide +kernel
theorem d227_29 : decode (xcode 227) 29 = .ok (.iconst 1, 1) := by decide +kernel
theorem d227_30 : decode (xcode 227) 30 = .ok (.goto 4, 3) := by decide +kernel
theorem d227_33 : decode (xcode 227) 33 = .ok (.iconst 0, 1) := by decide +kernel
theorem d227_34 : decode (xcode 227) 34 = .ok (.ireturn, 1) := by decide +kernel
theorem d227_35 : decode (xcode 227) 35 = .ok (.iinc 2 1, 3) := by decide +kernel
theorem d227_38 : decode (xcode 227) 38 = .ok (.goto (-36), 3) := by decide +kernel
theorem d227_41 : decode (xcode 227) 41 = .ok (.iconst 0, 1) := by decide +kernel
theorem d227_42 : decode (xcode 227) 42 = .ok (.ireturn, 1) := by decide +kernel
noncomputable def f_M_isLetBeSoon_b16 (v1 : Int32) (h : xH) : Option (Int32 × xH) :=
  if xib ((12 : Int32) + v1) 101 then (
  if (h.2.2.2.1 56 0 ((12 : Int32) + v1).toNatClampNeg) = (1 : Int32) then (
  some (((1 : Int32), h))) else (
  some (((0 : Int32), h)))) else none
set_option maxHeartbeats 4000000 in
set_option maxRecDepth 100000 in
theorem f_M_isLetBeSoon_b16_ok {g : xG} {l : Launch} {d : Nat} {v1 : Int32} {h : xH} {o : (Int32 × xH)} {R : Option xV} {H' : xH} (hD : 8 ≤ d) (hf : f_M_isLetBeSoon_b16 v1 h = some o) (K0 : ∀ (a : Int32) (h1 : xH), o = (a, h1) → R = some (xi a) ∧ H' = h1) : xEv g l d 227 16 [(0, xr 12 (some 0)), (1, xi v1)] [] h R H' := by
  unfold f_M_isLetBeSoon_b16 at hf
  refine xs_aload_n d227_16 rfl ?_
  refine xe_getc (j := 0) d227_17 ky227 fl181 fk12_20 rfl ?_
  refine xs_bipush (v := 12) d227_20 (by decide) ?_
  refine xs_iload_n d227_22 rfl ?_
  refine xs_iadd d227_23 ?_
  obtain ⟨hin6, hf⟩ := lk_g hf
  refine xe_iald d227_24 (by decide) ak56 hin6 ?_
  refine xs_iconst (v := 1) d227_25 (by decide) ?_
  rcases lk_if hf with ⟨hc7, hf⟩ | ⟨hc7, hf⟩
  · refine xs_icmp_ne (tgt := 33) d227_26 (by decide) (fun _ => ?_) (fun hn => absurd hc7 hn)
    refine xs_iconst (v := 1) d227_29 (by decide) ?_
    refine xs_goto (tgt := 34) d227_30 (by decide) ?_
    obtain ⟨eR, eH⟩ := K0 _ _ (Option.some.inj hf).symm
    subst eR; subst eH
    exact xe_zret d227_34 (Or.inr rfl) rt227
  · refine xs_icmp_ne (tgt := 33) d227_26 (by decide) (fun hp => absurd hp hc7) (fun _ => ?_)
    refine xs_iconst (v := 0) d227_33 (by decide) ?_
    obtain ⟨eR, eH⟩ := K0 _ _ (Option.some.inj hf).symm
    subst eR; subst eH
    exact xe_zret d227_34 (Or.inl rfl) rt227
noncomputable def f_M_isLetBeSoon_s2 (v1 : Int32) (v2 : Int32) (h : xH) : Option ((Int32 × xH) ⊕ (Int32 × xH)) :=
  if (100 : Int32) ≤ v2 then (
  some (Sum.inr (((0 : Int32), h)))) else (
  (f_M_passes h).bind fun q4 =>
  if q4.1 = v1 then (
  xup (f_M_isLetBeSoon_b16 v1 q4.2)) else (
  xlet (v2 + (1 : Int32)) fun v2_8 =>
  some (Sum.inl (v2_8, q4.2))))
set_option maxHeartbeats 4000000 in
set_option maxRecDepth 100000 in
theorem f_M_isLetBeSoon_s2_ok {g : xG} {l : Launch} {d : Nat} {v1 : Int32} {v2 : Int32} {h : xH} {o : ((Int32 × xH) ⊕ (Int32 × xH))} {R : Option xV} {H' : xH} (hD : 8 ≤ d) (hf : f_M_isLetBeSoon_s2 v1 v2 h = some o) (K1 : ∀ (w2 : Int32) (h1 : xH), o = Sum.inl (w2, h1) → xEv g l d 227 2 [(0, xr 12 (some 0)), (1, xi v1), (2, xi w2)] [] h1 R H') (K0 : ∀ (a : Int32) (h1 : xH), o = Sum.inr ((a, h1)) → R = some (xi a) ∧ H' = h1) : xEv g l d 227 2 [(0, xr 12 (some 0)), (1, xi v1), (2, xi v2)] [] h R H' := by
  unfold f_M_isLetBeSoon_s2 at hf
  refine xs_iload_n d227_2 rfl ?_
  refine xs_bipush (v := 100) d227_3 (by decide) ?_
  rcases lk_if hf with ⟨hc1, hf⟩ | ⟨hc1, hf⟩
  · refine xs_icmp_ge (tgt := 41) d227_5 (by decide) (fun _ => ?_) (fun hn => absurd hc1 hn)
    refine xs_iconst (v := 0) d227_41 (by decide) ?_
    obtain ⟨eR, eH⟩ := K0 _ _ (Option.some.inj hf).symm
    subst eR; subst eH
    exact xe_zret d227_42 (Or.inl rfl) rt227
  · refine xs_icmp_ge (tgt := 41) d227_5 (by decide) (fun hp => absurd hp hc1) (fun _ => ?_)
    refine xs_aload_n d227_8 rfl ?_
    obtain ⟨q4, hc3, hf⟩ := lk_b hf
    refine xe_callv1 (as := []) (st := []) (h2 := q4.2) (d2 := d - 1) d227_9 ky227 ml227 st203 (by decide) cn203 rfl na203 (Nat.le_of_ble_eq_true rfl) (by omega) (f_M_passes_ok (by omega) hc3) ?_
    refine xs_iload_n d227_12 rfl ?_
    rcases lk_if hf with ⟨hc5, hf⟩ | ⟨hc5, hf⟩
    · refine xs_icmp_ne (tgt := 35) d227_13 (by decide) (fun _ => ?_) (fun hn => absurd hc5 hn)
      refine xs_pick [0, 1] rfl ?_
      obtain ⟨x0, hf, ex0⟩ := lk_up hf
      exact f_M_isLetBeSoon_b16_ok hD hf (fun u0 u1 e => K0 u0 u1 (ex0.trans (congrArg Sum.inr e)))
    · refine xs_icmp_ne (tgt := 35) d227_13 (by decide) (fun hp => absurd hp hc5) (fun _ => ?_)
      obtain ⟨v2_8, ev2_8, hf⟩ := lk_let hf
      refine xe_iinc (v := v2_8) (b := 1) (ls2 := [(0, xr 12 (some 0)), (1, xi v1), (2, xi v2_8)]) d227_35 mx227 (by decide) rfl (by decide) ev2_8 rfl ?_
      refine xs_goto (tgt := 2) d227_38 (by decide) ?_
      exact K1 _ _ (Option.some.inj hf).symm
noncomputable def f_M_isLetBeSoon_l2 (v1 : Int32) (v2 : Int32) (h : xH) : Option (Int32 × xH) :=
  whl (fun s => f_M_isLetBeSoon_s2 v1 s.1 s.2) (v2, h)
theorem f_M_isLetBeSoon_l2_ok {g : xG} {l : Launch} {d : Nat} {v1 : Int32} {v2 : Int32} {h : xH} {o : (Int32 × xH)} {R : Option xV} {H' : xH} (hD : 8 ≤ d) (hf : f_M_isLetBeSoon_l2 v1 v2 h = some o) (K0 : ∀ (a : Int32) (h1 : xH), o = (a, h1) → R = some (xi a) ∧ H' = h1) : xEv g l d 227 2 [(0, xr 12 (some 0)), (1, xi v1), (2, xi v2)] [] h R H' := by
  obtain ⟨n, hn⟩ := whl_iff.mp hf
  clear hf
  induction n generalizing v2 h with
  | zero => cases hn
  | succ n ih =>
    obtain ⟨o2, hs, hn⟩ := lk_b (show (f_M_isLetBeSoon_s2 v1 v2 h).bind (fun o => Sum.elim (itn _ n) some o) = some o from hn)
    exact f_M_isLetBeSoon_s2_ok hD hs (fun u0 u1 e => ih (by rw [e] at hn; exact hn)) (fun u0 u1 e => K0 u0 u1 (by rw [e] at hn; exact (Option.some.inj hn).symm))
noncomputable def f_M_isLetBeSoon_e (v1 : Int32) (h : xH) : Option (Int32 × xH) :=
  f_M_isLetBeSoon_l2 v1 (0 : Int32) h
set_option maxHeartbeats 4000000 in
set_option maxRecDepth 100000 in
theorem f_M_isLetBeSoon_e_ok {g : xG} {l : Launch} {d : Nat} {v1 : Int32} {h : xH} {o : (Int32 × xH)} {R : Option xV} {H' : xH} (hD : 8 ≤ d) (hf : f_M_isLetBeSoon_e v1 h = some o) (K0 : ∀ (a : Int32) (h1 : xH), o = (a, h1) → R = some (xi a) ∧ H' = h1) : xEv g l d 227 0 [(0, xr 12 (some 0)), (1, xi v1)] [] h R H' := by
  unfold f_M_isLetBeSoon_e at hf
  refine xs_iconst (v := 0) d227_0 (by decide) ?_
  refine xe_istore_n (v := (0 : Int32)) (ls2 := [(0, xr 12 (some 0)), (1, xi v1), (2, xi (0 : Int32))]) d227_1 mx227 (by decide) rfl rfl ?_
  exact f_M_isLetBeSoon_l2_ok hD hf K0
noncomputable def f_M_isLetBeSoon (v1 : Int32) (h : xH) : Option (Int32 × xH) := f_M_isLetBeSoon_e v1 h
theorem f_M_isLetBeSoon_ok {g : xG} {l : Launch} {d : Nat} {v1 : Int32} {h : xH} {r : Int32} {h1 : xH} (hD : 8 ≤ d) (hf : f_M_isLetBeSoon v1 h = some (r, h1)) : xC g l d 227 [xr 12 (some 0), xi v1] h (some (xi r)) h1 :=
  xC_of2 (by decide) mx227 (Nat.le_of_ble_eq_true rfl) (f_M_isLetBeSoon_e_ok hD hf (fun _ _ e => by cases e; exact ⟨rfl, rfl⟩))
theorem d228_0 : decode (xcode 228) 0 = .ok (.aload_n 0, 1) := by decide +kernel
theorem d228_1 : decode (xcode 228) 1 = .ok (.iload_n 1, 1) := by decide +kernel
theorem d228_2 : decode (xcode 228) 2 = .ok (.invokevirtual 293, 3) := by decide +kernel
theorem d228_5 : decode (xcode 228) 5 = .ok (.ifCond .ne 5, 3) := by decide +kernel
theorem d228_8 : decode (xcode 228) 8 = .ok (.iconst (-1), 1) := by decide +kernel
theorem d228_9 : decode (xcode 228) 9 = .ok (.ireturn, 1) := by decide +kernel
theorem d228_10 : decode (xcode 228) 10 = .ok (.bipush (-2), 2) := by decide +kernel
theorem d228_12 : decode (xcode 228) 12 = .ok (.istore_n 2, 1) := by decide +kernel
theorem d228_13 : decode (xcode 228) 13 = .ok (.aload_n 0, 1) := by decide +kernel
theorem d228_14 : decode (xcode 228) 14 = .ok (.invokevirtual 363, 3) := by decide +kernel
theorem d228_17 : decode (xcode 228) 17 = .ok (.sipush 300, 3) := by decide +kernel
theorem d228_20 : decode (xcode 228) 20 = .ok (.istore_n 3, 1) := by decide +kernel
theorem d228_21 : decode (xcode 228) 21 = .ok (.iload_n 3, 1) := by decide +kernel
theorem d228_22 : decode (xcode 228) 22 = .ok (.ifCond .lt 32, 3) := by decide +kernel
theorem d228_25 : decode (xcode 228) 25 = .ok (.iload_n 2, 1) := by decide +kernel
theorem d228_26 : decode (xcode 228) 26 = .ok (.ifCond .ge 28, 3) := by decide +kernel
theorem d228_29 : decode (xcode 228) 29 = .ok (.aload_n 0, 1) := by decide +kernel
theorem d228_30 : decode (xcode 228) 30 = .ok (.iload_n 3, 1) := by decide +kernel
theorem d228_31 : decode (xcode 228) 31 = .ok (.invokevirtual 337, 3) := by decide +kernel
theorem d228_34 : decode (xcode 228) 34 = .ok (.aload_n 0, 1) := by decide +kernel
theorem d228_35 : decode (xcode 228) 35 = .ok (.iload_n 1, 1) := by decide +kernel
theorem d228_36 : decode (xcode 228) 36 = .ok (.invokevirtual 405, 3) := by decide +kernel
theorem d228_39 : decode (xcode 228) 39 = .ok (.ifCond .eq 5, 3) := by decide +kernel
theorem d228_42 : decode (xcode 228) 42 = .ok (.iload_n 3, 1) := by decide +kernel
theorem d228_43 : decode (xcode 228) 43 = .ok (.istore_n 2, 1) := by decide +kernel
theorem d228_44 : decode (xcode 228) 44 = .ok (.aload_n 0, 1) := by decide +kernel
theorem d228_45 : decode (xcode 228) 45 = .ok (.invokevirtual 369, 3) := by decide +kernel
theorem d228_48 : decode (xcode 228) 48 = .ok (.iinc 3 (-1), 3) := by decide +kernel
theorem d228_51 : decode (xcode 228) 51 = .ok (.goto (-30), 3) := by decide +kernel
theorem d228_54 : decode (xcode 228) 54 = .ok (.iload_n 2, 1) := by decide +kernel
theorem d228_55 : decode (xcode 228) 55 = .ok (.ireturn, 1) := by decide +kernel
noncomputable def f_M_slack_b44 (v1 : Int32) (v2 : Int32) (v3 : Int32) (h : xH) : Option ((Int32 × Int32 × xH) ⊕ (Int32 × xH)) :=
  (f_M_laysBack h).bind fun h18 =>
  xlet (v3 + (-1 : Int32)) fun v3_19 =>
  some (Sum.inl (v2, v3_19, h18))
set_option maxHeartbeats 4000000 in
set_option maxRecDepth 100000 in
theorem f_M_slack_b44_ok {g : xG} {l : Launch} {d : Nat} {v1 : Int32} {v2 : Int32} {v3 : Int32} {h : xH} {o : ((Int32 × Int32 × xH) ⊕ (Int32 × xH))} {R : Option xV} {H' : xH} (hD : 9 ≤ d) (hf : f_M_slack_b44 v1 v2 v3 h = some o) (K1 : ∀ (w2 : Int32) (w3 : Int32) (h1 : xH), o = Sum.inl (w2, w3, h1) → xEv g l d 228 21 [(0, xr 12 (some 0)), (1, xi v1), (2, xi w2), (3, xi w3)] [] h1 R H') (K0 : ∀ (a : Int32) (h1 : xH), o = Sum.inr ((a, h1)) → R = some (xi a) ∧ H' = h1) : xEv g l d 228 44 [(0, xr 12 (some 0)), (1, xi v1), (2, xi v2), (3, xi v3)] [] h R H' := by
  unfold f_M_slack_b44 at hf
  refine xs_aload_n d228_44 rfl ?_
  obtain ⟨h18, hc17, hf⟩ := lk_b hf
  refine xe_callv0 (as := []) (st := []) (h2 := h18) (d2 := d - 1) d228_45 ky228 ml254 st213 (by decide) cn213 rfl na213 (Nat.le_of_ble_eq_true rfl) (by omega) (f_M_laysBack_ok (by omega) hc17) ?_
  obtain ⟨v3_19, ev3_19, hf⟩ := lk_let hf
  refine xe_iinc (v := v3_19) (b := -1) (ls2 := [(0, xr 12 (some 0)), (1, xi v1), (2, xi v2), (3, xi v3_19)]) d228_48 mx228 (by decide) rfl (by decide) ev3_19 rfl ?_
  refine xs_goto (tgt := 21) d228_51 (by decide) ?_
  exact K1 _ _ _ (Option.some.inj hf).symm
noncomputable def f_M_slack_s21 (v1 : Int32) (v2 : Int32) (v3 : Int32) (h : xH) : Option ((Int32 × Int32 × xH) ⊕ (Int32 × xH)) :=
  if v3 < (0 : Int32) then (
  some (Sum.inr ((v2, h)))) else (
  if (0 : Int32) ≤ v2 then (
  some (Sum.inr ((v2, h)))) else (
  (f_M_goesBy v3 h).bind fun h11 =>
  (f_M_isLetBeSoon v1 h11).bind fun q14 =>
  if q14.1 = (0 : Int32) then (
  f_M_slack_b44 v1 v2 v3 q14.2) else (
  f_M_slack_b44 v1 v3 v3 q14.2)))
set_option maxHeartbeats 4000000 in
set_option maxRecDepth 100000 in
theorem f_M_slack_s21_ok {g : xG} {l : Launch} {d : Nat} {v1 : Int32} {v2 : Int32} {v3 : Int32} {h : xH} {o : ((Int32 × Int32 × xH) ⊕ (Int32 × xH))} {R : Option xV} {H' : xH} (hD : 9 ≤ d) (hf : f_M_slack_s21 v1 v2 v3 h = some o) (K1 : ∀ (w2 : Int32) (w3 : Int32) (h1 : xH), o = Sum.inl (w2, w3, h1) → xEv g l d 228 21 [(0, xr 12 (some 0)), (1, xi v1), (2, xi w2), (3, xi w3)] [] h1 R H') (K0 : ∀ (a : Int32) (h1 : xH), o = Sum.inr ((a, h1)) → R = some (xi a) ∧ H' = h1) : xEv g l d 228 21 [(0, xr 12 (some 0)), (1, xi v1), (2, xi v2), (3, xi v3)] [] h R H' := by
  unfold f_M_slack_s21 at hf
  refine xs_iload_n d228_21 rfl ?_
  rcases lk_if hf with ⟨hc7, hf⟩ | ⟨hc7, hf⟩
  · refine xs_if_lt (tgt := 54) d228_22 (by decide) (fun _ => ?_) (fun hn => absurd hc7 hn)
    refine xs_iload_n d228_54 rfl ?_
    obtain ⟨eR, eH⟩ := K0 _ _ (Option.some.inj hf).symm
    subst eR; subst eH
    exact xs_iret d228_55 rt228
  · refine xs_if_lt (tgt := 54) d228_22 (by decide) (fun hp => absurd hp hc7) (fun _ => ?_)
    refine xs_iload_n d228_25 rfl ?_
    rcases lk_if hf with ⟨hc8, hf⟩ | ⟨hc8, hf⟩
    · refine xs_if_ge (tgt := 54) d228_26 (by decide) (fun _ => ?_) (fun hn => absurd hc8 hn)
      refine xs_iload_n d228_54 rfl ?_
      obtain ⟨eR, eH⟩ := K0 _ _ (Option.some.inj hf).symm
      subst eR; subst eH
      exact xs_iret d228_55 rt228
    · refine xs_if_ge (tgt := 54) d228_26 (by decide) (fun hp => absurd hp hc8) (fun _ => ?_)
      refine xs_aload_n d228_29 rfl ?_
      refine xs_iload_n d228_30 rfl ?_
      obtain ⟨h11, hc10, hf⟩ := lk_b hf
      refine xe_callv0 (as := [xi v3]) (st := []) (h2 := h11) (d2 := d - 1) d228_31 ky228 ml245 st201 (by decide) cn201 rfl na201 (Nat.le_of_ble_eq_true rfl) (by omega) (f_M_goesBy_ok (by omega) hc10) ?_
      refine xs_aload_n d228_34 rfl ?_
      refine xs_iload_n d228_35 rfl ?_
      obtain ⟨q14, hc13, hf⟩ := lk_b hf
      refine xe_callv1 (as := [xi v1]) (st := []) (h2 := q14.2) (d2 := d - 1) d228_36 ky228 ml268 st227 (by decide) cn227 rfl na227 (Nat.le_of_ble_eq_true rfl) (by omega) (f_M_isLetBeSoon_ok (by omega) hc13) ?_
      rcases lk_if hf with ⟨hc15, hf⟩ | ⟨hc15, hf⟩
      · refine xs_if_eq (tgt := 44) d228_39 (by decide) (fun _ => ?_) (fun hn => absurd hc15 hn)
        exact f_M_slack_b44_ok hD hf K1 K0
      · refine xs_if_eq (tgt := 44) d228_39 (by decide) (fun hp => absurd hp hc15) (fun _ => ?_)
        refine xs_iload_n d228_42 rfl ?_
        refine xe_istore_n (v := v3) (ls2 := [(0, xr 12 (some 0)), (1, xi v1), (2, xi v3), (3, xi v3)]) d228_43 mx228 (by decide) rfl rfl ?_
        exact f_M_slack_b44_ok hD hf K1 K0
noncomputable def f_M_slack_l21 (v1 : Int32) (v2 : Int32) (v3 : Int32) (h : xH) : Option (Int32 × xH) :=
  whl (fun s => f_M_slack_s21 v1 s.1 s.2.1 s.2.2) (v2, v3, h)
theorem f_M_slack_l21_ok {g : xG} {l : Launch} {d : Nat} {v1 : Int32} {v2 : Int32} {v3 : Int32} {h : xH} {o : (Int32 × xH)} {R : Option xV} {H' : xH} (hD : 9 ≤ d) (hf : f_M_slack_l21 v1 v2 v3 h = some o) (K0 : ∀ (a : Int32) (h1 : xH), o = (a, h1) → R = some (xi a) ∧ H' = h1) : xEv g l d 228 21 [(0, xr 12 (some 0)), (1, xi v1), (2, xi v2), (3, xi v3)] [] h R H' := by
  obtain ⟨n, hn⟩ := whl_iff.mp hf
  clear hf
  induction n generalizing v2 v3 h with
  | zero => cases hn
  | succ n ih =>
    obtain ⟨o2, hs, hn⟩ := lk_b (show (f_M_slack_s21 v1 v2 v3 h).bind (fun o => Sum.elim (itn _ n) some o) = some o from hn)
    exact f_M_slack_s21_ok hD hs (fun u0 u1 u2 e => ih (by rw [e] at hn; exact hn)) (fun u0 u1 e => K0 u0 u1 (by rw [e] at hn; exact (Option.some.inj hn).symm))
noncomputable def f_M_slack_e (v1 : Int32) (h : xH) : Option (Int32 × xH) :=
  (f_M_isInside_i v1 h).bind fun r1 =>
  if r1 = (0 : Int32) then (
  some (((-1 : Int32), h))) else (
  (f_M_keeps h).bind fun h6 =>
  f_M_slack_l21 v1 (-2 : Int32) (300 : Int32) h6)
set_option maxHeartbeats 4000000 in
set_option maxRecDepth 100000 in
theorem f_M_slack_e_ok {g : xG} {l : Launch} {d : Nat} {v1 : Int32} {h : xH} {o : (Int32 × xH)} {R : Option xV} {H' : xH} (hD : 9 ≤ d) (hf : f_M_slack_e v1 h = some o) (K0 : ∀ (a : Int32) (h1 : xH), o = (a, h1) → R = some (xi a) ∧ H' = h1) : xEv g l d 228 0 [(0, xr 12 (some 0)), (1, xi v1)] [] h R H' := by
  unfold f_M_slack_e at hf
  refine xs_aload_n d228_0 rfl ?_
  refine xs_iload_n d228_1 rfl ?_
  obtain ⟨r1, hc2, hf⟩ := lk_b hf
  refine xe_callv1 (as := [xi v1]) (st := []) (h2 := h) (d2 := d - 1) d228_2 ky228 ml230 st186 (by decide) cn186 rfl na186 (Nat.le_of_ble_eq_true rfl) (by omega) (f_M_isInside_i_ok (by omega) hc2) ?_
  rcases lk_if hf with ⟨hc3, hf⟩ | ⟨hc3, hf⟩
  · refine xs_if_ne (tgt := 10) d228_5 (by decide) (fun _ => ?_) (fun hn => absurd hc3 hn)
    refine xs_iconst (v := -1) d228_8 (by decide) ?_
    obtain ⟨eR, eH⟩ := K0 _ _ (Option.some.inj hf).symm
    subst eR; subst eH
    exact xs_iret d228_9 rt228
  · refine xs_if_ne (tgt := 10) d228_5 (by decide) (fun hp => absurd hp hc3) (fun _ => ?_)
    refine xs_bipush (v := -2) d228_10 (by decide) ?_
    refine xe_istore_n (v := (-2 : Int32)) (ls2 := [(0, xr 12 (some 0)), (1, xi v1), (2, xi (-2 : Int32))]) d228_12 mx228 (by decide) rfl rfl ?_
    refine xs_aload_n d228_13 rfl ?_
    obtain ⟨h6, hc5, hf⟩ := lk_b hf
    refine xe_callv0 (as := []) (st := []) (h2 := h6) (d2 := d - 1) d228_14 ky228 ml252 st212 (by decide) cn212 rfl na212 (Nat.le_of_ble_eq_true rfl) (by omega) (f_M_keeps_ok (by omega) hc5) ?_
    refine xs_sipush (v := 300) d228_17 (by decide) ?_
    refine xe_istore_n (v := (300 : Int32)) (ls2 := [(0, xr 12 (some 0)), (1, xi v1), (2, xi (-2 : Int32)), (3, xi (300 : Int32))]) d228_20 mx228 (by decide) rfl rfl ?_
    exact f_M_slack_l21_ok hD hf K0
noncomputable def f_M_slack (v1 : Int32) (h : xH) : Option (Int32 × xH) := f_M_slack_e v1 h
theorem f_M_slack_ok {g : xG} {l : Launch} {d : Nat} {v1 : Int32} {h : xH} {r : Int32} {h1 : xH} (hD : 9 ≤ d) (hf : f_M_slack v1 h = some (r, h1)) : xC g l d 228 [xr 12 (some 0), xi v1] h (some (xi r)) h1 :=
  xC_of2 (by decide) mx228 (Nat.le_of_ble_eq_true rfl) (f_M_slack_e_ok hD hf (fun _ _ e => by cases e; exact ⟨rfl, rfl⟩))
theorem d229_0 : decode (xcode 229) 0 = .ok (.aload_n 0, 1) := by decide +kernel
theorem d229_1 : decode (xcode 229) 1 = .ok (.getfield 58, 3) := by decide +kernel
theorem d229_4 : decode (xcode 229) 4 = .ok (.iload_n 1, 1) := by decide +kernel
theorem d229_5 : decode (xcode 229) 5 = .ok (.iaload, 1) := by decide +kernel
theorem d229_6 : decode (xcode 229) 6 = .ok (.ifCond .ge 5, 3) := by decide +kernel
theorem d229_9 : decode (xcode 229) 9 = .ok (.iconst 1, 1) := by decide +kernel
theorem d229_10 : decode (xcode 229) 10 = .ok (.ireturn, 1) := by decide +kernel
theorem d229_11 : decode (xcode 229) 11 = .ok (.aload_n 0, 1) := by decide +kernel
theorem d229_12 : decode (xcode 229) 12 = .ok (.iload_n 1, 1) := by decide +kernel
theorem d229_13 : decode (xcode 229) 13 = .ok (.invokevirtual 293, 3) := by decide +kernel
theorem d229_16 : decode (xcode 229) 16 = .ok (.ifCond .ne 5, 3) := by decide +kernel
theorem d229_19 : decode (xcode 229) 19 = .ok (.iconst 0, 1) := by decide +kernel
theorem d229_20 : decode (xcode 229) 20 = .ok (.ireturn, 1) := by decide +kernel
theorem d229_21 : decode (xcode 229) 21 = .ok (.iconst 0, 1) := by decide +kernel
theorem d229_22 : decode (xcode 229) 22 = .ok (.istore_n 2, 1) := by decide +kernel
theorem d229_23 : decode (xcode 229) 23 = .ok (.iconst 0, 1) := by decide +kernel
theorem d229_24 : decode (xcode 229) 24 = .ok (.istore_n 3, 1) := by decide +kernel
theorem d229_25 : decode (xcode 229) 25 = .ok (.iload_n 3, 1) := by decide +kernel
theorem d229_26 : decode (xcode 229) 26 = .ok (.iload_n 1, 1) := by decide +kernel
theorem d229_27 : decode (xcode 229) 27 = .ok (.if_icmp .gt 40, 3) := by decide +kernel
theorem d229_30 : decode (xcode 229) 30 = .ok (.iload_n 2, 1) := by decide +kernel
theorem d229_31 : decode (xcode 229) 31 = .ok (.aload_n 0, 1) := by decide +kernel
theorem d229_32 : decode (xcode 229) 32 = .ok (.getfield 58, 3) := by decide +kernel
theorem d229_35 : decode (xcode 229) 35 = .ok (.iload_n 3, 1) := by decide +kernel
theorem d229_36 : decode (xcode 229) 36 = .ok (.iaload, 1) := by decide +kernel
theorem d229_37 : decode (xcode 229) 37 = .ok (.aload_n 0, 1) := by decide +kernel
theorem d229_38 : decode (xcode 229) 38 = .ok (.getfield 58, 3) := by decide +kernel
theorem d229_41 : decode (xcode 229) 41 = .ok (.iload_n 1, 1) := by decide +kernel
theorem d229_42 : decode (xcode 229) 42 = .ok (.iaload, 1) := by decide +kernel
theorem d229_43 : decode (xcode 229) 43 = .ok (.if_icmp .ne 15, 3) := by decide +kernel
theorem d229_46 : decode (xcode 229) 46 = .ok (.aload_n 0, 1) := by decide +kernel
theorem d229_47 : decode (xcode 229) 47 = .ok (.getfield 39, 3) := by decide +kernel
theorem d229_50 : decode (xcode 229) 50 = .ok (.bipush 28, 2) := by decide +kernel
theorem d229_52 : decode (xcode 229) 52 = .ok (.iload_n 3, 1) := by decide +kernel
theorem d229_53 : decode (xcode 229) 53 = .ok (.iadd, 1) := by decide +kernel
theorem d229_54 : decode (xcode 229) 54 = .ok (.iaload, 1) := by decide +kernel
theorem d229_55 : decode (xcode 229) 55 = .ok (.goto 4, 3) := by decide +kernel
theorem d229_58 : decode (xcode 229) 58 = .ok (.iconst 0, 1) := by decide +kernel
theorem d229_59 : decode (xcode 229) 59 = .ok (.iadd, 1) := by decide +kernel
theorem d229_60 : decode (xcode 229) 60 = .ok (.istore_n 2, 1) := by decide +kernel
theorem d229_61 : decode (xcode 229) 61 = .ok (.iinc 3 1, 3) := by decide +kernel
theorem d229_64 : decode (xcode 229) 64 = .ok (.goto (-39), 3) := by decide +kernel
theorem d229_67 : decode (xcode 229) 67 = .ok (.iload_n 2, 1) := by decide +kernel
theorem d229_68 : decode (xcode 229) 68 = .ok (.aload_n 0, 1) := by decide +kernel
theorem d229_69 : decode (xcode 229) 69 = .ok (.getfield 39, 3) := by decide +kernel
theorem d229_72 : decode (xcode 229) 72 = .ok (.bipush 60, 2) := by decide +kernel
theorem d229_74 : decode (xcode 229) 74 = .ok (.aload_n 0, 1) := by decide +kernel
theorem d229_75 : decode (xcode 229) 75 = .ok (.getfield 58, 3) := by decide +kernel
theorem d229_78 : decode (xcode 229) 78 = .ok (.iload_n 1, 1) := by decide +kernel
theorem d229_79 : decode (xcode 229) 79 = .ok (.iaload, 1) := by decide +kernel
theorem d229_80 : decode (xcode 229) 80 = .ok (.iadd, 1) := by decide +kernel
theorem d229_81 : decode (xcode 229) 81 = .ok (.iaload, 1) := by decide +kernel
theorem d229_82 : decode (xcode 229) 82 = .ok (.if_icmp .gt 7, 3) := by decide +kernel
theorem d229_85 : decode (xcode 229) 85 = .ok (.iconst 1, 1) := by decide +kernel
theorem d229_86 : decode (xcode 229) 86 = .ok (.goto 4, 3) := by decide +kernel
theorem d229_89 : decode (xcode 229) 89 = .ok (.iconst 0, 1) := by decide +kernel
theorem d229_90 : decode (xcode 229) 90 = .ok (.ireturn, 1) := by decide +kernel
noncomputable def f_M_canBear_b67 (v1 : Int32) (v2 : Int32) (h : xH) : Option Int32 :=
  if xib v1 9 then (
  if xib ((60 : Int32) + (h.2.2.2.1 61 0 (v1).toNatClampNeg)) 101 then (
  if (h.2.2.2.1 56 0 ((60 : Int32) + (h.2.2.2.1 61 0 (v1).toNatClampNeg)).toNatClampNeg) < v2 then (
  some ((0 : Int32))) else (
  some ((1 : Int32)))) else none) else none
set_option maxHeartbeats 4000000 in
set_option maxRecDepth 100000 in
theorem f_M_canBear_b67_ok {g : xG} {l : Launch} {d : Nat} {v1 : Int32} {v2 : Int32} {h : xH} {o : Int32} {R : Option xV} (hD : 2 ≤ d) (hf : f_M_canBear_b67 v1 v2 h = some o) (K0 : ∀ (a : Int32), o = a → R = some (xi a)) : xEv g l d 229 67 [(0, xr 12 (some 0)), (1, xi v1), (2, xi v2)] [] h R h := by
  unfold f_M_canBear_b67 at hf
  refine xs_iload_n d229_67 rfl ?_
  refine xs_aload_n d229_68 rfl ?_
  refine xe_getc (j := 0) d229_69 ky229 fl181 fk12_20 rfl ?_
  refine xs_bipush (v := 60) d229_72 (by decide) ?_
  refine xs_aload_n d229_74 rfl ?_
  refine xe_getc (j := 0) d229_75 ky229 fl192 fk12_31 rfl ?_
  refine xs_iload_n d229_78 rfl ?_
  obtain ⟨hin7, hf⟩ := lk_g hf
  refine xe_iald d229_79 (by decide) ak61 hin7 ?_
  refine xs_iadd d229_80 ?_
  obtain ⟨hin8, hf⟩ := lk_g hf
  refine xe_iald d229_81 (by decide) ak56 hin8 ?_
  rcases lk_if hf with ⟨hc9, hf⟩ | ⟨hc9, hf⟩
  · refine xs_icmp_gt (tgt := 89) d229_82 (by decide) (fun _ => ?_) (fun hn => absurd hc9 hn)
    refine xs_iconst (v := 0) d229_89 (by decide) ?_
    obtain eR := K0 _ (Option.some.inj hf).symm
    subst eR
    exact xe_zret d229_90 (Or.inl rfl) rt229
  · refine xs_icmp_gt (tgt := 89) d229_82 (by decide) (fun hp => absurd hp hc9) (fun _ => ?_)
    refine xs_iconst (v := 1) d229_85 (by decide) ?_
    refine xs_goto (tgt := 90) d229_86 (by decide) ?_
    obtain eR := K0 _ (Option.some.inj hf).symm
    subst eR
    exact xe_zret d229_90 (Or.inr rfl) rt229
noncomputable def f_M_canBear_b59 (v1 : Int32) (v3 : Int32) (t0 : Int32) (t1 : Int32) (h : xH) : Option ((Int32 × Int32) ⊕ Int32) :=
  xlet (t1 + t0) fun v2_14 =>
  xlet (v3 + (1 : Int32)) fun v3_15 =>
  some (Sum.inl (v2_14, v3_15))
set_option maxHeartbeats 4000000 in
set_option maxRecDepth 100000 in
theorem f_M_canBear_b59_ok {g : xG} {l : Launch} {d : Nat} {v1 : Int32} {v3 : Int32} {t0 : Int32} {t1 : Int32} {h : xH} {o : ((Int32 × Int32) ⊕ Int32)} {R : Option xV} (hD : 2 ≤ d) (hf : f_M_canBear_b59 v1 v3 t0 t1 h = some o) (K1 : ∀ (w2 : Int32) (w3 : Int32), o = Sum.inl (w2, w3) → xEv g l d 229 25 [(0, xr 12 (some 0)), (1, xi v1), (2, xi w2), (3, xi w3)] [] h R h) (K0 : ∀ (a : Int32), o = Sum.inr (a) → R = some (xi a)) : xEv g l d 229 59 [(0, xr 12 (some 0)), (1, xi v1), (3, xi v3)] [xi t0, xi t1] h R h := by
  unfold f_M_canBear_b59 at hf
  refine xs_iadd d229_59 ?_
  obtain ⟨v2_14, ev2_14, hf⟩ := lk_let hf
  refine xe_istore_n (v := v2_14) (ls2 := [(0, xr 12 (some 0)), (1, xi v1), (2, xi v2_14), (3, xi v3)]) d229_60 mx229 (by decide) ev2_14 rfl ?_
  obtain ⟨v3_15, ev3_15, hf⟩ := lk_let hf
  refine xe_iinc (v := v3_15) (b := 1) (ls2 := [(0, xr 12 (some 0)), (1, xi v1), (2, xi v2_14), (3, xi v3_15)]) d229_61 mx229 (by decide) rfl (by decide) ev3_15 rfl ?_
  refine xs_goto (tgt := 25) d229_64 (by decide) ?_
  exact K1 _ _ (Option.some.inj hf).symm
noncomputable def f_M_canBear_s25 (v1 : Int32) (v2 : Int32) (v3 : Int32) (h : xH) : Option ((Int32 × Int32) ⊕ Int32) :=
  if v1 < v3 then (
  xup (f_M_canBear_b67 v1 v2 h)) else (
  if xib v3 9 then (
  if xib v1 9 then (
  if (h.2.2.2.1 61 0 (v3).toNatClampNeg) = (h.2.2.2.1 61 0 (v1).toNatClampNeg) then (
  if xib ((28 : Int32) + v3) 101 then (
  f_M_canBear_b59 v1 v3 (h.2.2.2.1 56 0 ((28 : Int32) + v3).toNatClampNeg) v2 h) else none) else (
  f_M_canBear_b59 v1 v3 (0 : Int32) v2 h)) else none) else none)
set_option maxHeartbeats 4000000 in
set_option maxRecDepth 100000 in
theorem f_M_canBear_s25_ok {g : xG} {l : Launch} {d : Nat} {v1 : Int32} {v2 : Int32} {v3 : Int32} {h : xH} {o : ((Int32 × Int32) ⊕ Int32)} {R : Option xV} (hD : 2 ≤ d) (hf : f_M_canBear_s25 v1 v2 v3 h = some o) (K1 : ∀ (w2 : Int32) (w3 : Int32), o = Sum.inl (w2, w3) → xEv g l d 229 25 [(0, xr 12 (some 0)), (1, xi v1), (2, xi w2), (3, xi w3)] [] h R h) (K0 : ∀ (a : Int32), o = Sum.inr (a) → R = some (xi a)) : xEv g l d 229 25 [(0, xr 12 (some 0)), (1, xi v1), (2, xi v2), (3, xi v3)] [] h R h := by
  unfold f_M_canBear_s25 at hf
  refine xs_iload_n d229_25 rfl ?_
  refine xs_iload_n d229_26 rfl ?_
  rcases lk_if hf with ⟨hc6, hf⟩ | ⟨hc6, hf⟩
  · refine xs_icmp_gt (tgt := 67) d229_27 (by decide) (fun _ => ?_) (fun hn => absurd hc6 hn)
    refine xs_pick [0, 1, 2] rfl ?_
    obtain ⟨x0, hf, ex0⟩ := lk_up hf
    exact f_M_canBear_b67_ok hD hf (fun u0 e => K0 u0 (ex0.trans (congrArg Sum.inr e)))
  · refine xs_icmp_gt (tgt := 67) d229_27 (by decide) (fun hp => absurd hp hc6) (fun _ => ?_)
    refine xs_iload_n d229_30 rfl ?_
    refine xs_aload_n d229_31 rfl ?_
    refine xe_getc (j := 0) d229_32 ky229 fl192 fk12_31 rfl ?_
    refine xs_iload_n d229_35 rfl ?_
    obtain ⟨hin10, hf⟩ := lk_g hf
    refine xe_iald d229_36 (by decide) ak61 hin10 ?_
    refine xs_aload_n d229_37 rfl ?_
    refine xe_getc (j := 0) d229_38 ky229 fl192 fk12_31 rfl ?_
    refine xs_iload_n d229_41 rfl ?_
    obtain ⟨hin11, hf⟩ := lk_g hf
    refine xe_iald d229_42 (by decide) ak61 hin11 ?_
    rcases lk_if hf with ⟨hc12, hf⟩ | ⟨hc12, hf⟩
    · refine xs_icmp_ne (tgt := 58) d229_43 (by decide) (fun _ => ?_) (fun hn => absurd hc12 hn)
      refine xs_aload_n d229_46 rfl ?_
      refine xe_getc (j := 0) d229_47 ky229 fl181 fk12_20 rfl ?_
      refine xs_bipush (v := 28) d229_50 (by decide) ?_
      refine xs_iload_n d229_52 rfl ?_
      refine xs_iadd d229_53 ?_
      obtain ⟨hin13, hf⟩ := lk_g hf
      refine xe_iald d229_54 (by decide) ak56 hin13 ?_
      refine xs_goto (tgt := 59) d229_55 (by decide) ?_
      refine xs_pick [0, 1, 3] rfl ?_
      exact f_M_canBear_b59_ok hD hf K1 K0
    · refine xs_icmp_ne (tgt := 58) d229_43 (by decide) (fun hp => absurd hp hc12) (fun _ => ?_)
      refine xs_iconst (v := 0) d229_58 (by decide) ?_
      refine xs_pick [0, 1, 3] rfl ?_
      exact f_M_canBear_b59_ok hD hf K1 K0
noncomputable def f_M_canBear_l25 (v1 : Int32) (v2 : Int32) (v3 : Int32) (h : xH) : Option Int32 :=
  whl (fun s => f_M_canBear_s25 v1 s.1 s.2 h) (v2, v3)
theorem f_M_canBear_l25_ok {g : xG} {l : Launch} {d : Nat} {v1 : Int32} {v2 : Int32} {v3 : Int32} {h : xH} {o : Int32} {R : Option xV} (hD : 2 ≤ d) (hf : f_M_canBear_l25 v1 v2 v3 h = some o) (K0 : ∀ (a : Int32), o = a → R = some (xi a)) : xEv g l d 229 25 [(0, xr 12 (some 0)), (1, xi v1), (2, xi v2), (3, xi v3)] [] h R h := by
  obtain ⟨n, hn⟩ := whl_iff.mp hf
  clear hf
  induction n generalizing v2 v3 with
  | zero => cases hn
  | succ n ih =>
    obtain ⟨o2, hs, hn⟩ := lk_b (show (f_M_canBear_s25 v1 v2 v3 h).bind (fun o => Sum.elim (itn _ n) some o) = some o from hn)
    exact f_M_canBear_s25_ok hD hs (fun u0 u1 e => ih (by rw [e] at hn; exact hn)) (fun u0 e => K0 u0 (by rw [e] at hn; exact (Option.some.inj hn).symm))
noncomputable def f_M_canBear_e (v1 : Int32) (h : xH) : Option Int32 :=
  if xib v1 9 then (
  if (0 : Int32) ≤ (h.2.2.2.1 61 0 (v1).toNatClampNeg) then (
  (f_M_isInside_i v1 h).bind fun r3 =>
  if r3 = (0 : Int32) then (
  some ((0 : Int32))) else (
  f_M_canBear_l25 v1 (0 : Int32) (0 : Int32) h)) else (
  some ((1 : Int32)))) else none
set_option maxHeartbeats 4000000 in
set_option maxRecDepth 100000 in
theorem f_M_canBear_e_ok {g : xG} {l : Launch} {d : Nat} {v1 : Int32} {h : xH} {o : Int32} {R : Option xV} (hD : 2 ≤ d) (hf : f_M_canBear_e v1 h = some o) (K0 : ∀ (a : Int32), o = a → R = some (xi a)) : xEv g l d 229 0 [(0, xr 12 (some 0)), (1, xi v1)] [] h R h := by
  unfold f_M_canBear_e at hf
  refine xs_aload_n d229_0 rfl ?_
  refine xe_getc (j := 0) d229_1 ky229 fl192 fk12_31 rfl ?_
  refine xs_iload_n d229_4 rfl ?_
  obtain ⟨hin1, hf⟩ := lk_g hf
  refine xe_iald d229_5 (by decide) ak61 hin1 ?_
  rcases lk_if hf with ⟨hc2, hf⟩ | ⟨hc2, hf⟩
  · refine xs_if_ge (tgt := 11) d229_6 (by decide) (fun _ => ?_) (fun hn => absurd hc2 hn)
    refine xs_aload_n d229_11 rfl ?_
    refine xs_iload_n d229_12 rfl ?_
    obtain ⟨r3, hc4, hf⟩ := lk_b hf
    refine xe_callv1 (as := [xi v1]) (st := []) (h2 := h) (d2 := d - 1) d229_13 ky229 ml230 st186 (by decide) cn186 rfl na186 (Nat.le_of_ble_eq_true rfl) (by omega) (f_M_isInside_i_ok (by omega) hc4) ?_
    rcases lk_if hf with ⟨hc5, hf⟩ | ⟨hc5, hf⟩
    · refine xs_if_ne (tgt := 21) d229_16 (by decide) (fun _ => ?_) (fun hn => absurd hc5 hn)
      refine xs_iconst (v := 0) d229_19 (by decide) ?_
      obtain eR := K0 _ (Option.some.inj hf).symm
      subst eR
      exact xe_zret d229_20 (Or.inl rfl) rt229
    · refine xs_if_ne (tgt := 21) d229_16 (by decide) (fun hp => absurd hp hc5) (fun _ => ?_)
      refine xs_iconst (v := 0) d229_21 (by decide) ?_
      refine xe_istore_n (v := (0 : Int32)) (ls2 := [(0, xr 12 (some 0)), (1, xi v1), (2, xi (0 : Int32))]) d229_22 mx229 (by decide) rfl rfl ?_
      refine xs_iconst (v := 0) d229_23 (by decide) ?_
      refine xe_istore_n (v := (0 : Int32)) (ls2 := [(0, xr 12 (some 0)), (1, xi v1), (2, xi (0 : Int32)), (3, xi (0 : Int32))]) d229_24 mx229 (by decide) rfl rfl ?_
      exact f_M_canBear_l25_ok hD hf K0
  · refine xs_if_ge (tgt := 11) d229_6 (by decide) (fun hp => absurd hp hc2) (fun _ => ?_)
    refine xs_iconst (v := 1) d229_9 (by decide) ?_
    obtain eR := K0 _ (Option.some.inj hf).symm
    subst eR
    exact xe_zret d229_10 (Or.inr rfl) rt229
noncomputable def f_M_canBear (v1 : Int32) (h : xH) : Option Int32 := f_M_canBear_e v1 h
theorem f_M_canBear_ok {g : xG} {l : Launch} {d : Nat} {v1 : Int32} {h : xH} {r : Int32} (hD : 2 ≤ d) (hf : f_M_canBear v1 h = some r) : xC g l d 229 [xr 12 (some 0), xi v1] h (some (xi r)) h :=
  xC_of2 (by decide) mx229 (Nat.le_of_ble_eq_true rfl) (f_M_canBear_e_ok hD hf (fun _ e => by rw [e]))
theorem d230_0 : decode (xcode 230) 0 = .ok (.iconst 0, 1) := by decide +kernel
theorem d230_1 : decode (xcode 230) 1 = .ok (.istore_n 1, 1) := by decide +kernel
theorem d230_2 : decode (xcode 230) 2 = .ok (.iconst 0, 1) := by decide +kernel
theorem d230_3 : decode (xcode 230) 3 = .ok (.istore_n 2, 1) := by decide +kernel
theorem d230_4 : decode (xcode 230) 4 = .ok (.iload_n 2, 1) := by decide +kernel
theorem d230_5 : decode (xcode 230) 5 = .ok (.aload_n 0, 1) := by decide +kernel
theorem d230_6 : decode (xcode 230) 6 = .ok (.getfield 39, 3) := by decide +kernel
theorem d230_9 : decode (xcode 230) 9 = .ok (.iconst 3, 1) := by decide +kernel
theorem d230_10 : decode (xcode 230) 10 = .ok (.iaload, 1) := by decide +kernel
theorem d230_11 : decode (xcode 230) 11 = .ok (.if_icmp .ge 34, 3) := by decide +kernel
theorem d230_14 : decode (xcode 230) 14 = .ok (.iload_n 1, 1) := by decide +kernel
theorem d230_15 : decode (xcode 230) 15 = .ok (.aload_n 0, 1) := by decide +kernel
theorem d230_16 : decode (xcode 230) 16 = .ok (.getfield 58, 3) := by decide +kernel
theorem d230_19 : decode (xcode 230) 19 = .ok (.iload_n 2, 1) := by decide +kernel
theorem d230_20 : decode (xcode 230) 20 = .ok (.iaload, 1) := by decide +kernel
theorem d230_21 : decode (xcode 230) 21 = .ok (.ifCond .lt 15, 3) := by decide +kernel
theorem d230_24 : decode (xcode 230) 24 = .ok (.aload_n 0, 1) := by decide +kernel
theorem d230_25 : decode (xcode 230) 25 = .ok (.getfield 39, 3) := by decide +kernel
theorem d230_28 : decode (xcode 230) 28 = .ok (.bipush 28, 2) := by decide +kernel
theorem d230_30 : decode (xcode 230) 30 = .ok (.iload_n 2, 1) := by decide +kernel
theorem d230_31 : decode (xcode 230) 31 = .ok (.iadd, 1) := by decide +kernel
theorem d230_32 : decode (xcode 230) 32 = .ok (.iaload, 1) := by decide +kernel
theorem d230_33 : decode (xcode 230) 33 = .ok (.goto 4, 3) := by decide +kernel
theorem d230_36 : decode (xcode 230) 36 = .ok (.iconst 0, 1) := by decide +kernel
theorem d230_37 : decode (xcode 230) 37 = .ok (.iadd, 1) := by decide +kernel
theorem d230_38 : decode (xcode 230) 38 = .ok (.istore_n 1, 1) := by decide +kernel
theorem d230_39 : decode (xcode 230) 39 = .ok (.iinc 2 1, 3) := by decide +kernel
theorem d230_42 : decode (xcode 230) 42 = .ok (.goto (-38), 3) := by decide +kernel
theorem d230_45 : decode (xcode 230) 45 = .ok (.iload_n 1, 1) := by decide +kernel
theorem d230_46 : decode (xcode 230) 46 = .ok (.ireturn, 1) := by decide +kernel
noncomputable def f_M_carriedNow_b37 (v2 : Int32) (t0 : Int32) (t1 : Int32) (h : xH) : Option ((Int32 × Int32) ⊕ Int32) :=
  xlet (t1 + t0) fun v1_4 =>
  xlet (v2 + (1 : Int32)) fun v2_5 =>
  some (Sum.inl (v1_4, v2_5))
set_option maxHeartbeats 4000000 in
set_option maxRecDepth 100000 in
theorem f_M_carriedNow_b37_ok {g : xG} {l : Launch} {d : Nat} {v2 : Int32} {t0 : Int32} {t1 : Int32} {h : xH} {o : ((Int32 × Int32) ⊕ Int32)} {R : Option xV} (hD : 0 ≤ d) (hf : f_M_carriedNow_b37 v2 t0 t1 h = some o) (K1 : ∀ (w1 : Int32) (w2 : Int32), o = Sum.inl (w1, w2) → xEv g l d 230 4 [(0, xr 12 (some 0)), (1, xi w1), (2, xi w2)] [] h R h) (K0 : ∀ (a : Int32), o = Sum.inr (a) → R = some (xi a)) : xEv g l d 230 37 [(0, xr 12 (some 0)), (2, xi v2)] [xi t0, xi t1] h R h := by
  unfold f_M_carriedNow_b37 at hf
  refine xs_iadd d230_37 ?_
  obtain ⟨v1_4, ev1_4, hf⟩ := lk_let hf
  refine xe_istore_n (v := v1_4) (ls2 := [(0, xr 12 (some 0)), (1, xi v1_4), (2, xi v2)]) d230_38 mx230 (by decide) ev1_4 rfl ?_
  obtain ⟨v2_5, ev2_5, hf⟩ := lk_let hf
  refine xe_iinc (v := v2_5) (b := 1) (ls2 := [(0, xr 12 (some 0)), (1, xi v1_4), (2, xi v2_5)]) d230_39 mx230 (by decide) rfl (by decide) ev2_5 rfl ?_
  refine xs_goto (tgt := 4) d230_42 (by decide) ?_
  exact K1 _ _ (Option.some.inj hf).symm
noncomputable def f_M_carriedNow_s4 (v1 : Int32) (v2 : Int32) (h : xH) : Option ((Int32 × Int32) ⊕ Int32) :=
  if (h.2.2.2.1 56 0 ((3 : Int32)).toNatClampNeg) ≤ v2 then (
  some (Sum.inr (v1))) else (
  if xib v2 9 then (
  if (h.2.2.2.1 61 0 (v2).toNatClampNeg) < (0 : Int32) then (
  f_M_carriedNow_b37 v2 (0 : Int32) v1 h) else (
  if xib ((28 : Int32) + v2) 101 then (
  f_M_carriedNow_b37 v2 (h.2.2.2.1 56 0 ((28 : Int32) + v2).toNatClampNeg) v1 h) else none)) else none)
set_option maxHeartbeats 4000000 in
set_option maxRecDepth 100000 in
theorem f_M_carriedNow_s4_ok {g : xG} {l : Launch} {d : Nat} {v1 : Int32} {v2 : Int32} {h : xH} {o : ((Int32 × Int32) ⊕ Int32)} {R : Option xV} (hD : 0 ≤ d) (hf : f_M_carriedNow_s4 v1 v2 h = some o) (K1 : ∀ (w1 : Int32) (w2 : Int32), o = Sum.inl (w1, w2) → xEv g l d 230 4 [(0, xr 12 (some 0)), (1, xi w1), (2, xi w2)] [] h R h) (K0 : ∀ (a : Int32), o = Sum.inr (a) → R = some (xi a)) : xEv g l d 230 4 [(0, xr 12 (some 0)), (1, xi v1), (2, xi v2)] [] h R h := by
  unfold f_M_carriedNow_s4 at hf
  refine xs_iload_n d230_4 rfl ?_
  refine xs_aload_n d230_5 rfl ?_
  refine xe_getc (j := 0) d230_6 ky230 fl181 fk12_20 rfl ?_
  refine xs_iconst (v := 3) d230_9 (by decide) ?_
  refine xe_iald d230_10 (by decide) ak56 (show xib (3 : Int32) 101 by decide) ?_
  rcases lk_if hf with ⟨hc1, hf⟩ | ⟨hc1, hf⟩
  · refine xs_icmp_ge (tgt := 45) d230_11 (by decide) (fun _ => ?_) (fun hn => absurd hc1 hn)
    refine xs_iload_n d230_45 rfl ?_
    obtain eR := K0 _ (Option.some.inj hf).symm
    subst eR
    exact xs_iret d230_46 rt230
  · refine xs_icmp_ge (tgt := 45) d230_11 (by decide) (fun hp => absurd hp hc1) (fun _ => ?_)
    refine xs_iload_n d230_14 rfl ?_
    refine xs_aload_n d230_15 rfl ?_
    refine xe_getc (j := 0) d230_16 ky230 fl192 fk12_31 rfl ?_
    refine xs_iload_n d230_19 rfl ?_
    obtain ⟨hin2, hf⟩ := lk_g hf
    refine xe_iald d230_20 (by decide) ak61 hin2 ?_
    rcases lk_if hf with ⟨hc3, hf⟩ | ⟨hc3, hf⟩
    · refine xs_if_lt (tgt := 36) d230_21 (by decide) (fun _ => ?_) (fun hn => absurd hc3 hn)
      refine xs_iconst (v := 0) d230_36 (by decide) ?_
      refine xs_pick [0, 2] rfl ?_
      exact f_M_carriedNow_b37_ok hD hf K1 K0
    · refine xs_if_lt (tgt := 36) d230_21 (by decide) (fun hp => absurd hp hc3) (fun _ => ?_)
      refine xs_aload_n d230_24 rfl ?_
      refine xe_getc (j := 0) d230_25 ky230 fl181 fk12_20 rfl ?_
      refine xs_bipush (v := 28) d230_28 (by decide) ?_
      refine xs_iload_n d230_30 rfl ?_
      refine xs_iadd d230_31 ?_
      obtain ⟨hin6, hf⟩ := lk_g hf
      refine xe_iald d230_32 (by decide) ak56 hin6 ?_
      refine xs_goto (tgt := 37) d230_33 (by decide) ?_
      refine xs_pick [0, 2] rfl ?_
      exact f_M_carriedNow_b37_ok hD hf K1 K0
noncomputable def f_M_carriedNow_l4 (v1 : Int32) (v2 : Int32) (h : xH) : Option Int32 :=
  whl (fun s => f_M_carriedNow_s4 s.1 s.2 h) (v1, v2)
theorem f_M_carriedNow_l4_ok {g : xG} {l : Launch} {d : Nat} {v1 : Int32} {v2 : Int32} {h : xH} {o : Int32} {R : Option xV} (hD : 0 ≤ d) (hf : f_M_carriedNow_l4 v1 v2 h = some o) (K0 : ∀ (a : Int32), o = a → R = some (xi a)) : xEv g l d 230 4 [(0, xr 12 (some 0)), (1, xi v1), (2, xi v2)] [] h R h := by
  obtain ⟨n, hn⟩ := whl_iff.mp hf
  clear hf
  induction n generalizing v1 v2 with
  | zero => cases hn
  | succ n ih =>
    obtain ⟨o2, hs, hn⟩ := lk_b (show (f_M_carriedNow_s4 v1 v2 h).bind (fun o => Sum.elim (itn _ n) some o) = some o from hn)
    exact f_M_carriedNow_s4_ok hD hs (fun u0 u1 e => ih (by rw [e] at hn; exact hn)) (fun u0 e => K0 u0 (by rw [e] at hn; exact (Option.some.inj hn).symm))
noncomputable def f_M_carriedNow_e (h : xH) : Option Int32 :=
  f_M_carriedNow_l4 (0 : Int32) (0 : Int32) h
set_option maxHeartbeats 4000000 in
set_option maxRecDepth 100000 in
theorem f_M_carriedNow_e_ok {g : xG} {l : Launch} {d : Nat} {h : xH} {o : Int32} {R : Option xV} (hD : 0 ≤ d) (hf : f_M_carriedNow_e h = some o) (K0 : ∀ (a : Int32), o = a → R = some (xi a)) : xEv g l d 230 0 [(0, xr 12 (some 0))] [] h R h := by
  unfold f_M_carriedNow_e at hf
  refine xs_iconst (v := 0) d230_0 (by decide) ?_
  refine xe_istore_n (v := (0 : Int32)) (ls2 := [(0, xr 12 (some 0)), (1, xi (0 : Int32))]) d230_1 mx230 (by decide) rfl rfl ?_
  refine xs_iconst (v := 0) d230_2 (by decide) ?_
  refine xe_istore_n (v := (0 : Int32)) (ls2 := [(0, xr 12 (some 0)), (1, xi (0 : Int32)), (2, xi (0 : Int32))]) d230_3 mx230 (by decide) rfl rfl ?_
  exact f_M_carriedNow_l4_ok hD hf K0
noncomputable def f_M_carriedNow (h : xH) : Option Int32 := f_M_carriedNow_e h
theorem f_M_carriedNow_ok {g : xG} {l : Launch} {d : Nat} {h : xH} {r : Int32} (hD : 0 ≤ d) (hf : f_M_carriedNow h = some r) : xC g l d 230 [xr 12 (some 0)] h (some (xi r)) h :=
  xC_of2 (by decide) mx230 (Nat.le_of_ble_eq_true rfl) (f_M_carriedNow_e_ok hD hf (fun _ e => by rw [e]))
theorem d231_0 : decode (xcode 231) 0 = .ok (.iconst (-1), 1) := by decide +kernel
theorem d231_1 : decode (xcode 231) 1 = .ok (.istore_n 1, 1) := by decide +kernel
theorem d231_2 : decode (xcode 231) 2 = .ok (.iconst 0, 1) := by decide +kernel
theorem d231_3 : decode (xcode 231) 3 = .ok (.istore_n 2, 1) := by decide +kernel
theorem d231_4 : decode (xcode 231) 4 = .ok (.aload_n 0, 1) := by decide +kernel
theorem d231_5 : decode (xcode 231) 5 = .ok (.getfield 58, 3) := by decide +kernel
theorem d231_8 : decode (xcode 231) 8 = .ok (.iconst 0, 1) := by decide +kernel
theorem d231_9 : decode (xcode 231) 9 = .ok (.bipush (-2), 2) := by decide +kernel
theorem d231_11 : decode (xcode 231) 11 = .ok (.iastore, 1) := by decide +kernel
theorem d231_12 : decode (xcode 231) 12 = .ok (.iload_n 2, 1) := by decide +kernel
theorem d231_13 : decode (xcode 231) 13 = .ok (.ifCond .lt 127, 3) := by decide +kernel
theorem d231_16 : decode (xcode 231) 16 = .ok (.iload_n 2, 1) := by decide +kernel
theorem d231_17 : decode (xcode 231) 17 = .ok (.aload_n 0, 1) := by decide +kernel
theorem d231_18 : decode (xcode 231) 18 = .ok (.getfield 39, 3) := by decide +kernel
theorem d231_21 : decode (xcode 231) 21 = .ok (.iconst 3, 1) := by decide +kernel
theorem d231_22 : decode (xcode 231) 22 = .ok (.iaload, 1) := by decide +kernel
theorem d231_23 : decode (xcode 231) 23 = .ok (.if_icmp .ne 64, 3) := by decide +kernel
theorem d231_26 : decode (xcode 231) 26 = .ok (.aload_n 0, 1) := by decide +kernel
theorem d231_27 : decode (xcode 231) 27 = .ok (.invokevirtual 408, 3) := by decide +kernel
theorem d231_30 : decode (xcode 231) 30 = .ok (.istore_n 3, 1) := by decide +kernel
theorem d231_31 : decode (xcode 231) 31 = .ok (.iconst 0, 1) := by decide +kernel
theorem d231_32 : decode (xcode 231) 32 = .ok (.istore 4, 2) := by decide +kernel
theorem d231_34 : decode (xcode 231) 34 = .ok (.iload 4, 2) := by decide +kernel
theorem d231_36 : decode (xcode 231) 36 = .ok (.aload_n 0, 1) := by decide +kernel
theorem d231_37 : decode (xcode 231) 37 = .ok (.getfield 39, 3) := by decide +kernel
theorem d231_40 : decode (xcode 231) 40 = .ok (.iconst 3, 1) := by decide +kernel
theorem d231_41 : decode (xcode 231) 41 = .ok (.iaload, 1) := by decide +kernel
theorem d231_42 : decode (xcode 231) 42 = .ok (.if_icmp .ge 28, 3) := by decide +kernel
theorem d231_45 : decode (xcode 231) 45 = .ok (.iload_n 3, 1) := by decide +kernel
theorem d231_46 : decode (xcode 231) 46 = .ok (.iload_n 1, 1) := by decide +kernel
theorem d231_47 : decode (xcode 231) 47 = .ok (.if_icmp .le 23, 3) := by decide +kernel
theorem d231_50 : decode (xcode 231) 50 = .ok (.aload_n 0, 1) := by decide +kernel
theorem d231_51 : decode (xcode 231) 51 = .ok (.getfield 61, 3) := by decide +kernel
theorem d231_54 : decode (xcode 231) 54 = .ok (.iload 4, 2) := by decide +kernel
theorem d231_56 : decode (xcode 231) 56 = .ok (.aload_n 0, 1) := by decide +kernel
theorem d231_57 : decode (xcode 231) 57 = .ok (.getfield 58, 3) := by decide +kernel
theorem d231_60 : decode (xcode 231) 60 = .ok (.iload 4, 2) := by decide +kernel
theorem d231_62 : decode (xcode 231) 62 = .ok (.iaload, 1) := by decide +kernel
theorem d231_63 : decode (xcode 231) 63 = .ok (.iastore, 1) := by decide +kernel
theorem d231_64 : decode (xcode 231) 64 = .ok (.iinc 4 1, 3) := by decide +kernel
theorem d231_67 : decode (xcode 231) 67 = .ok (.goto (-33), 3) := by decide +kernel
theorem d231_70 : decode (xcode 231) 70 = .ok (.iload_n 3, 1) := by decide +kernel
theorem d231_71 : decode (xcode 231) 71 = .ok (.iload_n 1, 1) := by decide +kernel
theorem d231_72 : decode (xcode 231) 72 = .ok (.if_icmp .le 7, 3) := by decide +kernel
theorem d231_75 : decode (xcode 231) 75 = .ok (.iload_n 3, 1) := by decide +kernel
theorem d231_76 : decode (xcode 231) 76 = .ok (.goto 4, 3) := by decide +kernel
theorem d231_79 : decode (xcode 231) 79 = .ok (.iload_n 1, 1) := by decide +kernel
theorem d231_80 : decode (xcode 231) 80 = .ok (.istore_n 1, 1) := by decide +kernel
theorem d231_81 : decode (xcode 231) 81 = .ok (.iinc 2 (-1), 3) := by decide +kernel
theorem d231_84 : decode (xcode 231) 84 = .ok (.goto (-72), 3) := by decide +kernel
theorem d231_87 : decode (xcode 231) 87 = .ok (.aload_n 0, 1) := by decide +kernel
theorem d231_88 : decode (xcode 231) 88 = .ok (.getfield 58, 3) := by decide +kernel
theorem d231_91 : decode (xcode 231) 91 = .ok (.iload_n 2, 1) := by decide +kernel
theorem d231_92 : decode (xcode 231) 92 = .ok (.dup2, 1) := by decide +kernel
theorem d231_93 : decode (xcode 231) 93 = .ok (.iaload, 1) := by decide +kernel
theorem d231_94 : decode (xcode 231) 94 = .ok (.iconst 1, 1) := by decide +kernel
theorem d231_95 : decode (xcode 231) 95 = .ok (.iadd, 1) := by decide +kernel
theorem d231_96 : decode (xcode 231) 96 = .ok (.iastore, 1) := by decide +kernel
theorem d231_97 : decode (xcode 231) 97 = .ok (.aload_n 0, 1) := by decide +kernel
theorem d231_98 : decode (xcode 231) 98 = .ok (.getfield 58, 3) := by decide +kernel
theorem d231_101 : decode (xcode 231) 101 = .ok (.iload_n 2, 1) := by decide +kernel
theorem d231_102 : decode (xcode 231) 102 = .ok (.iaload, 1) := by decide +kernel
theorem d231_103 : decode (xcode 231) 103 = .ok (.aload_n 0, 1) := by decide +kernel
theorem d231_104 : decode (xcode 231) 104 = .ok (.getfield 39, 3) := by decide +kernel
theorem d231_107 : decode (xcode 231) 107 = .ok (.iconst 4, 1) := by decide +kernel
theorem d231_108 : decode (xcode 231) 108 = .ok (.iaload, 1) := by decide +kernel
theorem d231_109 : decode (xcode 231) 109 = .ok (.if_icmp .lt 9, 3) := by decide +kernel
theorem d231_112 : decode (xcode 231) 112 = .ok (.iinc 2 (-1), 3) := by decide +kernel
theorem d231_115 : decode (xcode 231) 115 = .ok (.goto (-103), 3) := by decide +kernel
theorem d231_118 : decode (xcode 231) 118 = .ok (.aload_n 0, 1) := by decide +kernel
theorem d231_119 : decode (xcode 231) 119 = .ok (.iload_n 2, 1) := by decide +kernel
theorem d231_120 : decode (xcode 231) 120 = .ok (.invokevirtual 411, 3) := by decide +kernel
theorem d231_123 : decode (xcode 231) 123 = .ok (.ifCond .eq (-111), 3) := by decide +kernel
theorem d231_126 : decode (xcode 231) 126 = .ok (.iinc 2 1, 3) := by decide +kernel
theorem d231_129 : decode (xcode 231) 129 = .ok (.aload_n 0, 1) := by decide +kernel
theorem d231_130 : decode (xcode 231) 130 = .ok (.getfield 58, 3) := by decide +kernel
theorem d231_133 : decode (xcode 231) 133 = .ok (.iload_n 2, 1) := by decide +kernel
theorem d231_134 : decode (xcode 231) 134 = .ok (.bipush (-2), 2) := by decide +kernel
theorem d231_136 : decode (xcode 231) 136 = .ok (.iastore, 1) := by decide +kernel
theorem d231_137 : decode (xcode 231) 137 = .ok (.goto (-125), 3) := by decide +kernel
theorem d231_140 : decode (xcode 231) 140 = .ok (.iload_n 1, 1) := by decide +kernel
theorem d231_141 : decode (xcode 231) 141 = .ok (.ireturn, 1) := by decide +kernel
noncomputable def f_M_findsCarry_b80 (v2 : Int32) (t0 : Int32) (h : xH) : Option ((Int32 × Int32 × xH) ⊕ (Int32 × xH)) :=
  xlet (v2 + (-1 : Int32)) fun v2_8 =>
  some (Sum.inl (t0, v2_8, h))
set_option maxHeartbeats 4000000 in
set_option maxRecDepth 100000 in
theorem f_M_findsCarry_b80_ok {g : xG} {l : Launch} {d : Nat} {v2 : Int32} {t0 : Int32} {h : xH} {o : ((Int32 × Int32 × xH) ⊕ (Int32 × xH))} {R : Option xV} {H' : xH} (hD : 3 ≤ d) (hf : f_M_findsCarry_b80 v2 t0 h = some o) (K1 : ∀ (w1 : Int32) (w2 : Int32) (h1 : xH), o = Sum.inl (w1, w2, h1) → xEv g l d 231 12 [(0, xr 12 (some 0)), (1, xi w1), (2, xi w2)] [] h1 R H') (K0 : ∀ (a : Int32) (h1 : xH), o = Sum.inr ((a, h1)) → R = some (xi a) ∧ H' = h1) : xEv g l d 231 80 [(0, xr 12 (some 0)), (2, xi v2)] [xi t0] h R H' := by
  unfold f_M_findsCarry_b80 at hf
  refine xe_istore_n (v := t0) (ls2 := [(0, xr 12 (some 0)), (1, xi t0), (2, xi v2)]) d231_80 mx231 (by decide) rfl rfl ?_
  obtain ⟨v2_8, ev2_8, hf⟩ := lk_let hf
  refine xe_iinc (v := v2_8) (b := -1) (ls2 := [(0, xr 12 (some 0)), (1, xi t0), (2, xi v2_8)]) d231_81 mx231 (by decide) rfl (by decide) ev2_8 rfl ?_
  refine xs_goto (tgt := 12) d231_84 (by decide) ?_
  exact K1 _ _ _ (Option.some.inj hf).symm
noncomputable def f_M_findsCarry_b70 (v1 : Int32) (v2 : Int32) (v3 : Int32) (h : xH) : Option ((Int32 × Int32 × xH) ⊕ (Int32 × xH)) :=
  if v3 ≤ v1 then (
  f_M_findsCarry_b80 v2 v1 h) else (
  f_M_findsCarry_b80 v2 v3 h)
set_option maxHeartbeats 4000000 in
set_option maxRecDepth 100000 in
theorem f_M_findsCarry_b70_ok {g : xG} {l : Launch} {d : Nat} {v1 : Int32} {v2 : Int32} {v3 : Int32} {h : xH} {o : ((Int32 × Int32 × xH) ⊕ (Int32 × xH))} {R : Option xV} {H' : xH} (hD : 3 ≤ d) (hf : f_M_findsCarry_b70 v1 v2 v3 h = some o) (K1 : ∀ (w1 : Int32) (w2 : Int32) (h1 : xH), o = Sum.inl (w1, w2, h1) → xEv g l d 231 12 [(0, xr 12 (some 0)), (1, xi w1), (2, xi w2)] [] h1 R H') (K0 : ∀ (a : Int32) (h1 : xH), o = Sum.inr ((a, h1)) → R = some (xi a) ∧ H' = h1) : xEv g l d 231 70 [(0, xr 12 (some 0)), (1, xi v1), (2, xi v2), (3, xi v3)] [] h R H' := by
  unfold f_M_findsCarry_b70 at hf
  refine xs_iload_n d231_70 rfl ?_
  refine xs_iload_n d231_71 rfl ?_
  rcases lk_if hf with ⟨hc7, hf⟩ | ⟨hc7, hf⟩
  · refine xs_icmp_le (tgt := 79) d231_72 (by decide) (fun _ => ?_) (fun hn => absurd hc7 hn)
    refine xs_iload_n d231_79 rfl ?_
    refine xs_pick [0, 2] rfl ?_
    exact f_M_findsCarry_b80_ok hD hf K1 K0
  · refine xs_icmp_le (tgt := 79) d231_72 (by decide) (fun hp => absurd hp hc7) (fun _ => ?_)
    refine xs_iload_n d231_75 rfl ?_
    refine xs_goto (tgt := 80) d231_76 (by decide) ?_
    refine xs_pick [0, 2] rfl ?_
    exact f_M_findsCarry_b80_ok hD hf K1 K0
noncomputable def f_M_findsCarry_s34 (v1 : Int32) (v2 : Int32) (v3 : Int32) (v4 : Int32) (h : xH) : Option ((Int32 × xH) ⊕ ((Int32 × Int32 × xH) ⊕ (Int32 × xH))) :=
  if (h.2.2.2.1 56 0 ((3 : Int32)).toNatClampNeg) ≤ v4 then (
  xup (f_M_findsCarry_b70 v1 v2 v3 h)) else (
  if v3 ≤ v1 then (
  xup (f_M_findsCarry_b70 v1 v2 v3 h)) else (
  if xib v4 9 then (
  if xib v4 8 then (
  xlet (xsA h 62 0 (upd (h.2.2.2.1 62 0) (v4).toNatClampNeg (h.2.2.2.1 61 0 (v4).toNatClampNeg))) fun h12 =>
  xlet (v4 + (1 : Int32)) fun v4_13 =>
  some (Sum.inl (v4_13, h12))) else none) else none))
set_option maxHeartbeats 4000000 in
set_option maxRecDepth 100000 in
theorem f_M_findsCarry_s34_ok {g : xG} {l : Launch} {d : Nat} {v1 : Int32} {v2 : Int32} {v3 : Int32} {v4 : Int32} {h : xH} {o : ((Int32 × xH) ⊕ ((Int32 × Int32 × xH) ⊕ (Int32 × xH)))} {R : Option xV} {H' : xH} (hD : 3 ≤ d) (hf : f_M_findsCarry_s34 v1 v2 v3 v4 h = some o) (K1 : ∀ (w1 : Int32) (w2 : Int32) (h1 : xH), o = Sum.inr (Sum.inl (w1, w2, h1)) → xEv g l d 231 12 [(0, xr 12 (some 0)), (1, xi w1), (2, xi w2)] [] h1 R H') (K2 : ∀ (w4 : Int32) (h1 : xH), o = Sum.inl (w4, h1) → xEv g l d 231 34 [(0, xr 12 (some 0)), (1, xi v1), (2, xi v2), (3, xi v3), (4, xi w4)] [] h1 R H') (K0 : ∀ (a : Int32) (h1 : xH), o = Sum.inr (Sum.inr ((a, h1))) → R = some (xi a) ∧ H' = h1) : xEv g l d 231 34 [(0, xr 12 (some 0)), (1, xi v1), (2, xi v2), (3, xi v3), (4, xi v4)] [] h R H' := by
  unfold f_M_findsCarry_s34 at hf
  refine xs_iload d231_34 rfl ?_
  refine xs_aload_n d231_36 rfl ?_
  refine xe_getc (j := 0) d231_37 ky231 fl181 fk12_20 rfl ?_
  refine xs_iconst (v := 3) d231_40 (by decide) ?_
  refine xe_iald d231_41 (by decide) ak56 (show xib (3 : Int32) 101 by decide) ?_
  rcases lk_if hf with ⟨hc6, hf⟩ | ⟨hc6, hf⟩
  · refine xs_icmp_ge (tgt := 70) d231_42 (by decide) (fun _ => ?_) (fun hn => absurd hc6 hn)
    refine xs_pick [0, 1, 2, 3] rfl ?_
    obtain ⟨x0, hf, ex0⟩ := lk_up hf
    exact f_M_findsCarry_b70_ok hD hf (fun u0 u1 u2 e => K1 u0 u1 u2 (ex0.trans (congrArg Sum.inr e))) (fun u0 u1 e => K0 u0 u1 (ex0.trans (congrArg Sum.inr e)))
  · refine xs_icmp_ge (tgt := 70) d231_42 (by decide) (fun hp => absurd hp hc6) (fun _ => ?_)
    refine xs_iload_n d231_45 rfl ?_
    refine xs_iload_n d231_46 rfl ?_
    rcases lk_if hf with ⟨hc9, hf⟩ | ⟨hc9, hf⟩
    · refine xs_icmp_le (tgt := 70) d231_47 (by decide) (fun _ => ?_) (fun hn => absurd hc9 hn)
      refine xs_pick [0, 1, 2, 3] rfl ?_
      obtain ⟨x0, hf, ex0⟩ := lk_up hf
      exact f_M_findsCarry_b70_ok hD hf (fun u0 u1 u2 e => K1 u0 u1 u2 (ex0.trans (congrArg Sum.inr e))) (fun u0 u1 e => K0 u0 u1 (ex0.trans (congrArg Sum.inr e)))
    · refine xs_icmp_le (tgt := 70) d231_47 (by decide) (fun hp => absurd hp hc9) (fun _ => ?_)
      refine xs_aload_n d231_50 rfl ?_
      refine xe_getc (j := 0) d231_51 ky231 fl193 fk12_32 rfl ?_
      refine xs_iload d231_54 rfl ?_
      refine xs_aload_n d231_56 rfl ?_
      refine xe_getc (j := 0) d231_57 ky231 fl192 fk12_31 rfl ?_
      refine xs_iload d231_60 rfl ?_
      obtain ⟨hin10, hf⟩ := lk_g hf
      refine xe_iald d231_62 (by decide) ak61 hin10 ?_
      obtain ⟨hin11, hf⟩ := lk_g hf
      obtain ⟨h12, eh12, hf⟩ := lk_let hf
      refine xe_iast d231_63 (by decide) ak62 hin11  eh12 ?_
      obtain ⟨v4_13, ev4_13, hf⟩ := lk_let hf
      refine xe_iinc (v := v4_13) (b := 1) (ls2 := [(0, xr 12 (some 0)), (1, xi v1), (2, xi v2), (3, xi v3), (4, xi v4_13)]) d231_64 mx231 (by decide) rfl (by decide) ev4_13 rfl ?_
      refine xs_goto (tgt := 34) d231_67 (by decide) ?_
      exact K2 _ _ (Option.some.inj hf).symm
noncomputable def f_M_findsCarry_l34 (v1 : Int32) (v2 : Int32) (v3 : Int32) (v4 : Int32) (h : xH) : Option ((Int32 × Int32 × xH) ⊕ (Int32 × xH)) :=
  whl (fun s => f_M_findsCarry_s34 v1 v2 v3 s.1 s.2) (v4, h)
theorem f_M_findsCarry_l34_ok {g : xG} {l : Launch} {d : Nat} {v1 : Int32} {v2 : Int32} {v3 : Int32} {v4 : Int32} {h : xH} {o : ((Int32 × Int32 × xH) ⊕ (Int32 × xH))} {R : Option xV} {H' : xH} (hD : 3 ≤ d) (hf : f_M_findsCarry_l34 v1 v2 v3 v4 h = some o) (K1 : ∀ (w1 : Int32) (w2 : Int32) (h1 : xH), o = Sum.inl (w1, w2, h1) → xEv g l d 231 12 [(0, xr 12 (some 0)), (1, xi w1), (2, xi w2)] [] h1 R H') (K0 : ∀ (a : Int32) (h1 : xH), o = Sum.inr ((a, h1)) → R = some (xi a) ∧ H' = h1) : xEv g l d 231 34 [(0, xr 12 (some 0)), (1, xi v1), (2, xi v2), (3, xi v3), (4, xi v4)] [] h R H' := by
  obtain ⟨n, hn⟩ := whl_iff.mp hf
  clear hf
  induction n generalizing v4 h with
  | zero => cases hn
  | succ n ih =>
    obtain ⟨o2, hs, hn⟩ := lk_b (show (f_M_findsCarry_s34 v1 v2 v3 v4 h).bind (fun o => Sum.elim (itn _ n) some o) = some o from hn)
    exact f_M_findsCarry_s34_ok hD hs (fun u0 u1 u2 e => K1 u0 u1 u2 (by rw [e] at hn; exact (Option.some.inj hn).symm)) (fun u0 u1 e => ih (by rw [e] at hn; exact hn)) (fun u0 u1 e => K0 u0 u1 (by rw [e] at hn; exact (Option.some.inj hn).symm))
noncomputable def f_M_findsCarry_s12 (v1 : Int32) (v2 : Int32) (h : xH) : Option ((Int32 × Int32 × xH) ⊕ (Int32 × xH)) :=
  if v2 < (0 : Int32) then (
  some (Sum.inr ((v1, h)))) else (
  if v2 = (h.2.2.2.1 56 0 ((3 : Int32)).toNatClampNeg) then (
  (f_M_carriedNow h).bind fun r4 =>
  f_M_findsCarry_l34 v1 v2 r4 (0 : Int32) h) else (
  if xib v2 9 then (
  if xib v2 9 then (
  xlet (xsA h 61 0 (upd (h.2.2.2.1 61 0) (v2).toNatClampNeg ((h.2.2.2.1 61 0 (v2).toNatClampNeg) + (1 : Int32)))) fun h16 =>
  if xib v2 9 then (
  if (h16.2.2.2.1 61 0 (v2).toNatClampNeg) < (h16.2.2.2.1 56 0 ((4 : Int32)).toNatClampNeg) then (
  (f_M_canBear v2 h16).bind fun r19 =>
  if r19 = (0 : Int32) then (
  some (Sum.inl (v1, v2, h16))) else (
  xlet (v2 + (1 : Int32)) fun v2_22 =>
  if xib v2_22 9 then (
  xlet (xsA h16 61 0 (upd (h16.2.2.2.1 61 0) (v2_22).toNatClampNeg (-2 : Int32))) fun h24 =>
  some (Sum.inl (v1, v2_22, h24))) else none)) else (
  xlet (v2 + (-1 : Int32)) fun v2_25 =>
  some (Sum.inl (v1, v2_25, h16)))) else none) else none) else none))
set_option maxHeartbeats 4000000 in
set_option maxRecDepth 100000 in
theorem f_M_findsCarry_s12_ok {g : xG} {l : Launch} {d : Nat} {v1 : Int32} {v2 : Int32} {h : xH} {o : ((Int32 × Int32 × xH) ⊕ (Int32 × xH))} {R : Option xV} {H' : xH} (hD : 3 ≤ d) (hf : f_M_findsCarry_s12 v1 v2 h = some o) (K1 : ∀ (w1 : Int32) (w2 : Int32) (h1 : xH), o = Sum.inl (w1, w2, h1) → xEv g l d 231 12 [(0, xr 12 (some 0)), (1, xi w1), (2, xi w2)] [] h1 R H') (K0 : ∀ (a : Int32) (h1 : xH), o = Sum.inr ((a, h1)) → R = some (xi a) ∧ H' = h1) : xEv g l d 231 12 [(0, xr 12 (some 0)), (1, xi v1), (2, xi v2)] [] h R H' := by
  unfold f_M_findsCarry_s12 at hf
  refine xs_iload_n d231_12 rfl ?_
  rcases lk_if hf with ⟨hc2, hf⟩ | ⟨hc2, hf⟩
  · refine xs_if_lt (tgt := 140) d231_13 (by decide) (fun _ => ?_) (fun hn => absurd hc2 hn)
    refine xs_iload_n d231_140 rfl ?_
    obtain ⟨eR, eH⟩ := K0 _ _ (Option.some.inj hf).symm
    subst eR; subst eH
    exact xs_iret d231_141 rt231
  · refine xs_if_lt (tgt := 140) d231_13 (by decide) (fun hp => absurd hp hc2) (fun _ => ?_)
    refine xs_iload_n d231_16 rfl ?_
    refine xs_aload_n d231_17 rfl ?_
    refine xe_getc (j := 0) d231_18 ky231 fl181 fk12_20 rfl ?_
    refine xs_iconst (v := 3) d231_21 (by decide) ?_
    refine xe_iald d231_22 (by decide) ak56 (show xib (3 : Int32) 101 by decide) ?_
    rcases lk_if hf with ⟨hc3, hf⟩ | ⟨hc3, hf⟩
    · refine xs_icmp_ne (tgt := 87) d231_23 (by decide) (fun _ => ?_) (fun hn => absurd hc3 hn)
      refine xs_aload_n d231_26 rfl ?_
      obtain ⟨r4, hc5, hf⟩ := lk_b hf
      refine xe_callv1 (as := []) (st := []) (h2 := h) (d2 := d - 1) d231_27 ky231 ml271 st230 (by decide) cn230 rfl na230 (Nat.le_of_ble_eq_true rfl) (by omega) (f_M_carriedNow_ok (by omega) hc5) ?_
      refine xe_istore_n (v := r4) (ls2 := [(0, xr 12 (some 0)), (1, xi v1), (2, xi v2), (3, xi r4)]) d231_30 mx231 (by decide) rfl rfl ?_
      refine xs_iconst (v := 0) d231_31 (by decide) ?_
      refine xe_istore (v := (0 : Int32)) (ls2 := [(0, xr 12 (some 0)), (1, xi v1), (2, xi v2), (3, xi r4), (4, xi (0 : Int32))]) d231_32 mx231 (by decide) rfl rfl ?_
      exact f_M_findsCarry_l34_ok hD hf K1 K0
    · refine xs_icmp_ne (tgt := 87) d231_23 (by decide) (fun hp => absurd hp hc3) (fun _ => ?_)
      refine xs_aload_n d231_87 rfl ?_
      refine xe_getc (j := 0) d231_88 ky231 fl192 fk12_31 rfl ?_
      refine xs_iload_n d231_91 rfl ?_
      refine xs_dup2 d231_92 rfl rfl ?_
      obtain ⟨hin14, hf⟩ := lk_g hf
      refine xe_iald d231_93 (by decide) ak61 hin14 ?_
      refine xs_iconst (v := 1) d231_94 (by decide) ?_
      refine xs_iadd d231_95 ?_
      obtain ⟨hin15, hf⟩ := lk_g hf
      obtain ⟨h16, eh16, hf⟩ := lk_let hf
      refine xe_iast d231_96 (by decide) ak61 hin15  eh16 ?_
      refine xs_aload_n d231_97 rfl ?_
      refine xe_getc (j := 0) d231_98 ky231 fl192 fk12_31 rfl ?_
      refine xs_iload_n d231_101 rfl ?_
      obtain ⟨hin17, hf⟩ := lk_g hf
      refine xe_iald d231_102 (by decide) ak61 hin17 ?_
      refine xs_aload_n d231_103 rfl ?_
      refine xe_getc (j := 0) d231_104 ky231 fl181 fk12_20 rfl ?_
      refine xs_iconst (v := 4) d231_107 (by decide) ?_
      refine xe_iald d231_108 (by decide) ak56 (show xib (4 : Int32) 101 by decide) ?_
      rcases lk_if hf with ⟨hc18, hf⟩ | ⟨hc18, hf⟩
      · refine xs_icmp_lt (tgt := 118) d231_109 (by decide) (fun _ => ?_) (fun hn => absurd hc18 hn)
        refine xs_aload_n d231_118 rfl ?_
        refine xs_iload_n d231_119 rfl ?_
        obtain ⟨r19, hc20, hf⟩ := lk_b hf
        refine xe_callv1 (as := [xi v2]) (st := []) (h2 := h16) (d2 := d - 1) d231_120 ky231 ml272 st229 (by decide) cn229 rfl na229 (Nat.le_of_ble_eq_true rfl) (by omega) (f_M_canBear_ok (by omega) hc20) ?_
        rcases lk_if hf with ⟨hc21, hf⟩ | ⟨hc21, hf⟩
        · refine xs_if_eq (tgt := 12) d231_123 (by decide) (fun _ => ?_) (fun hn => absurd hc21 hn)
          exact K1 _ _ _ (Option.some.inj hf).symm
        · refine xs_if_eq (tgt := 12) d231_123 (by decide) (fun hp => absurd hp hc21) (fun _ => ?_)
          obtain ⟨v2_22, ev2_22, hf⟩ := lk_let hf
          refine xe_iinc (v := v2_22) (b := 1) (ls2 := [(0, xr 12 (some 0)), (1, xi v1), (2, xi v2_22)]) d231_126 mx231 (by decide) rfl (by decide) ev2_22 rfl ?_
          refine xs_aload_n d231_129 rfl ?_
          refine xe_getc (j := 0) d231_130 ky231 fl192 fk12_31 rfl ?_
          refine xs_iload_n d231_133 rfl ?_
          refine xs_bipush (v := -2) d231_134 (by decide) ?_
          obtain ⟨hin23, hf⟩ := lk_g hf
          obtain ⟨h24, eh24, hf⟩ := lk_let hf
          refine xe_iast d231_136 (by decide) ak61 hin23  eh24 ?_
          refine xs_goto (tgt := 12) d231_137 (by decide) ?_
          exact K1 _ _ _ (Option.some.inj hf).symm
      · refine xs_icmp_lt (tgt := 118) d231_109 (by decide) (fun hp => absurd hp hc18) (fun _ => ?_)
        obtain ⟨v2_25, ev2_25, hf⟩ := lk_let hf
        refine xe_iinc (v := v2_25) (b := -1) (ls2 := [(0, xr 12 (some 0)), (1, xi v1), (2, xi v2_25)]) d231_112 mx231 (by decide) rfl (by decide) ev2_25 rfl ?_
        refine xs_goto (tgt := 12) d231_115 (by decide) ?_
        exact K1 _ _ _ (Option.some.inj hf).symm
noncomputable def f_M_findsCarry_l12 (v1 : Int32) (v2 : Int32) (h : xH) : Option (Int32 × xH) :=
  whl (fun s => f_M_findsCarry_s12 s.1 s.2.1 s.2.2) (v1, v2, h)
theorem f_M_findsCarry_l12_ok {g : xG} {l : Launch} {d : Nat} {v1 : Int32} {v2 : Int32} {h : xH} {o : (Int32 × xH)} {R : Option xV} {H' : xH} (hD : 3 ≤ d) (hf : f_M_findsCarry_l12 v1 v2 h = some o) (K0 : ∀ (a : Int32) (h1 : xH), o = (a, h1) → R = some (xi a) ∧ H' = h1) : xEv g l d 231 12 [(0, xr 12 (some 0)), (1, xi v1), (2, xi v2)] [] h R H' := by
  obtain ⟨n, hn⟩ := whl_iff.mp hf
  clear hf
  induction n generalizing v1 v2 h with
  | zero => cases hn
  | succ n ih =>
    obtain ⟨o2, hs, hn⟩ := lk_b (show (f_M_findsCarry_s12 v1 v2 h).bind (fun o => Sum.elim (itn _ n) some o) = some o from hn)
    exact f_M_findsCarry_s12_ok hD hs (fun u0 u1 u2 e => ih (by rw [e] at hn; exact hn)) (fun u0 u1 e => K0 u0 u1 (by rw [e] at hn; exact (Option.some.inj hn).symm))
noncomputable def f_M_findsCarry_e (h : xH) : Option (Int32 × xH) :=
  xlet (xsA h 61 0 (upd (h.2.2.2.1 61 0) ((0 : Int32)).toNatClampNeg (-2 : Int32))) fun h1 =>
  f_M_findsCarry_l12 (-1 : Int32) (0 : Int32) h1
set_option maxHeartbeats 4000000 in
set_option maxRecDepth 100000 in
theorem f_M_findsCarry_e_ok {g : xG} {l : Launch} {d : Nat} {h : xH} {o : (Int32 × xH)} {R : Option xV} {H' : xH} (hD : 3 ≤ d) (hf : f_M_findsCarry_e h = some o) (K0 : ∀ (a : Int32) (h1 : xH), o = (a, h1) → R = some (xi a) ∧ H' = h1) : xEv g l d 231 0 [(0, xr 12 (some 0))] [] h R H' := by
  unfold f_M_findsCarry_e at hf
  refine xs_iconst (v := -1) d231_0 (by decide) ?_
  refine xe_istore_n (v := (-1 : Int32)) (ls2 := [(0, xr 12 (some 0)), (1, xi (-1 : Int32))]) d231_1 mx231 (by decide) rfl rfl ?_
  refine xs_iconst (v := 0) d231_2 (by decide) ?_
  refine xe_istore_n (v := (0 : Int32)) (ls2 := [(0, xr 12 (some 0)), (1, xi (-1 : Int32)), (2, xi (0 : Int32))]) d231_3 mx231 (by decide) rfl rfl ?_
  refine xs_aload_n d231_4 rfl ?_
  refine xe_getc (j := 0) d231_5 ky231 fl192 fk12_31 rfl ?_
  refine xs_iconst (v := 0) d231_8 (by decide) ?_
  refine xs_bipush (v := -2) d231_9 (by decide) ?_
  obtain ⟨h1, eh1, hf⟩ := lk_let hf
  refine xe_iast d231_11 (by decide) ak61 (show xib (0 : Int32) 9 by decide)  eh1 ?_
  exact f_M_findsCarry_l12_ok hD hf K0
noncomputable def f_M_findsCarry (h : xH) : Option (Int32 × xH) := f_M_findsCarry_e h
theorem f_M_findsCarry_ok {g : xG} {l : Launch} {d : Nat} {h : xH} {r : Int32} {h1 : xH} (hD : 3 ≤ d) (hf : f_M_findsCarry h = some (r, h1)) : xC g l d 231 [xr 12 (some 0)] h (some (xi r)) h1 :=
  xC_of2 (by decide) mx231 (Nat.le_of_ble_eq_true rfl) (f_M_findsCarry_e_ok hD hf (fun _ _ e => by cases e; exact ⟨rfl, rfl⟩))
theorem d232_0 : decode (xcode 232) 0 = .ok (.aload_n 0, 1) := by decide +kernel
theorem d232_1 : decode (xcode 232) 1 = .ok (.invokevirtual 349, 3) := by decide +kernel
theorem d232_4 : decode (xcode 232) 4 = .ok (.ifCond .eq 17, 3) := by decide +kernel
theorem d232_7 : decode (xcode 232) 7 = .ok (.iload_n 1, 1) := by decide +kernel
theorem d232_8 : decode (xcode 232) 8 = .ok (.i2l, 1) := by decide +kernel
theorem d232_9 : decode (xcode 232) 9 = .ok (.ldc2_w 414, 3) := by decide +kernel
theorem d232_12 : decode (xcode 232) 12 = .ok (.ldc2_w 394, 3) := by decide +kernel
theorem d232_15 : decode (xcode 232) 15 = .ok (.invokestatic 124, 3) := by decide +kernel
theorem d232_18 : decode (xcode 232) 18 = .ok (.ifCond .ne 6, 3) := by decide +kernel
theorem d232_21 : decode (xcode 232) 21 = .ok (.bipush (-3), 2) := by decide +kernel
theorem d232_23 : decode (xcode 232) 23 = .ok (.ireturn, 1) := by decide +kernel
theorem d232_24 : decode (xcode 232) 24 = .ok (.aload_n 0, 1) := by decide +kernel
theorem d232_25 : decode (xcode 232) 25 = .ok (.invokevirtual 416, 3) := by decide +kernel
theorem d232_28 : decode (xcode 232) 28 = .ok (.istore_n 2, 1) := by decide +kernel
theorem d232_29 : decode (xcode 232) 29 = .ok (.iload_n 1, 1) := by decide +kernel
theorem d232_30 : decode (xcode 232) 30 = .ok (.iconst (-1), 1) := by decide +kernel
theorem d232_31 : decode (xcode 232) 31 = .ok (.if_icmp .ne 5, 3) := by decide +kernel
theorem d232_34 : decode (xcode 232) 34 = .ok (.iload_n 2, 1) := by decide +kernel
theorem d232_35 : decode (xcode 232) 35 = .ok (.ireturn, 1) := by decide +kernel
theorem d232_36 : decode (xcode 232) 36 = .ok (.aload_n 0, 1) := by decide +kernel
theorem d232_37 : decode (xcode 232) 37 = .ok (.iload_n 1, 1) := by decide +kernel
theorem d232_38 : decode (xcode 232) 38 = .ok (.invokevirtual 293, 3) := by decide +kernel
theorem d232_41 : decode (xcode 232) 41 = .ok (.ifCond .eq 12, 3) := by decide +kernel
theorem d232_44 : decode (xcode 232) 44 = .ok (.aload_n 0, 1) := by decide +kernel
theorem d232_45 : decode (xcode 232) 45 = .ok (.getfield 61, 3) := by decide +kernel
theorem d232_48 : decode (xcode 232) 48 = .ok (.iload_n 1, 1) := by decide +kernel
theorem d232_49 : decode (xcode 232) 49 = .ok (.iaload, 1) := by decide +kernel
theorem d232_50 : decode (xcode 232) 50 = .ok (.goto 5, 3) := by decide +kernel
theorem d232_53 : decode (xcode 232) 53 = .ok (.bipush (-2), 2) := by decide +kernel
theorem d232_55 : decode (xcode 232) 55 = .ok (.ireturn, 1) := by decide +kernel
noncomputable def f_M_carry_e (v1 : Int32) (h : xH) : Option (Int32 × xH) :=
  (f_M_isTrug h).bind fun r1 =>
  if r1 = (0 : Int32) then (
  some (((-3 : Int32), h))) else (
  (f_M_in ((v1).toInt64) (-1 : Int64) (7 : Int64) h).bind fun r4 =>
  if r4 = (0 : Int32) then (
  some (((-3 : Int32), h))) else (
  (f_M_findsCarry h).bind fun q9 =>
  if v1 = (-1 : Int32) then (
  some ((q9.1, q9.2))) else (
  (f_M_isInside_i v1 q9.2).bind fun r11 =>
  if r11 = (0 : Int32) then (
  some (((-2 : Int32), q9.2))) else (
  if xib v1 8 then (
  some ((q9.2.2.2.2.1 62 0 (v1).toNatClampNeg, q9.2))) else none))))
set_option maxHeartbeats 4000000 in
set_option maxRecDepth 100000 in
theorem f_M_carry_e_ok {g : xG} {l : Launch} {d : Nat} {v1 : Int32} {h : xH} {o : (Int32 × xH)} {R : Option xV} {H' : xH} (hD : 4 ≤ d) (hf : f_M_carry_e v1 h = some o) (K0 : ∀ (a : Int32) (h1 : xH), o = (a, h1) → R = some (xi a) ∧ H' = h1) : xEv g l d 232 0 [(0, xr 12 (some 0)), (1, xi v1)] [] h R H' := by
  unfold f_M_carry_e at hf
  refine xs_aload_n d232_0 rfl ?_
  obtain ⟨r1, hc2, hf⟩ := lk_b hf
  refine xe_callv1 (as := []) (st := []) (h2 := h) (d2 := d - 1) d232_1 ky232 ml225 st184 (by decide) cn184 rfl na184 (Nat.le_of_ble_eq_true rfl) (by omega) (f_M_isTrug_ok (by omega) hc2) ?_
  rcases lk_if hf with ⟨hc3, hf⟩ | ⟨hc3, hf⟩
  · refine xs_if_eq (tgt := 21) d232_4 (by decide) (fun _ => ?_) (fun hn => absurd hc3 hn)
    refine xs_bipush (v := -3) d232_21 (by decide) ?_
    obtain ⟨eR, eH⟩ := K0 _ _ (Option.some.inj hf).symm
    subst eR; subst eH
    exact xs_iret d232_23 rt232
  · refine xs_if_eq (tgt := 21) d232_4 (by decide) (fun hp => absurd hp hc3) (fun _ => ?_)
    refine xs_iload_n d232_7 rfl ?_
    refine xs_i2l d232_8 ?_
    refine xs_ldc2 (v := -1) d232_9 cl12_414 ?_
    refine xs_ldc2 (v := 7) d232_12 cl12_394 ?_
    obtain ⟨r4, hc5, hf⟩ := lk_b hf
    refine xe_calls1 (as := [xl ((v1).toInt64), xl (-1 : Int64), xl (7 : Int64)]) (st := []) (h2 := h) (d2 := d - 1) d232_15 ky232 ml196 st139 rfl na139 (Nat.le_of_ble_eq_true rfl) (by omega) (f_M_in_ok (by omega) hc5) ?_
    rcases lk_if hf with ⟨hc6, hf⟩ | ⟨hc6, hf⟩
    · refine xs_if_ne (tgt := 24) d232_18 (by decide) (fun _ => ?_) (fun hn => absurd hc6 hn)
      refine xs_bipush (v := -3) d232_21 (by decide) ?_
      obtain ⟨eR, eH⟩ := K0 _ _ (Option.some.inj hf).symm
      subst eR; subst eH
      exact xs_iret d232_23 rt232
    · refine xs_if_ne (tgt := 24) d232_18 (by decide) (fun hp => absurd hp hc6) (fun _ => ?_)
      refine xs_aload_n d232_24 rfl ?_
      obtain ⟨q9, hc8, hf⟩ := lk_b hf
      refine xe_callv1 (as := []) (st := []) (h2 := q9.2) (d2 := d - 1) d232_25 ky232 ml270 st231 (by decide) cn231 rfl na231 (Nat.le_of_ble_eq_true rfl) (by omega) (f_M_findsCarry_ok (by omega) hc8) ?_
      refine xe_istore_n (v := q9.1) (ls2 := [(0, xr 12 (some 0)), (1, xi v1), (2, xi q9.1)]) d232_28 mx232 (by decide) rfl rfl ?_
      refine xs_iload_n d232_29 rfl ?_
      refine xs_iconst (v := -1) d232_30 (by decide) ?_
      rcases lk_if hf with ⟨hc10, hf⟩ | ⟨hc10, hf⟩
      · refine xs_icmp_ne (tgt := 36) d232_31 (by decide) (fun _ => ?_) (fun hn => absurd hc10 hn)
        refine xs_iload_n d232_34 rfl ?_
        obtain ⟨eR, eH⟩ := K0 _ _ (Option.some.inj hf).symm
        subst eR; subst eH
        exact xs_iret d232_35 rt232
      · refine xs_icmp_ne (tgt := 36) d232_31 (by decide) (fun hp => absurd hp hc10) (fun _ => ?_)
        refine xs_aload_n d232_36 rfl ?_
        refine xs_iload_n d232_37 rfl ?_
        obtain ⟨r11, hc12, hf⟩ := lk_b hf
        refine xe_callv1 (as := [xi v1]) (st := []) (h2 := q9.2) (d2 := d - 1) d232_38 ky232 ml230 st186 (by decide) cn186 rfl na186 (Nat.le_of_ble_eq_true rfl) (by omega) (f_M_isInside_i_ok (by omega) hc12) ?_
        rcases lk_if hf with ⟨hc13, hf⟩ | ⟨hc13, hf⟩
        · refine xs_if_eq (tgt := 53) d232_41 (by decide) (fun _ => ?_) (fun hn => absurd hc13 hn)
          refine xs_bipush (v := -2) d232_53 (by decide) ?_
          obtain ⟨eR, eH⟩ := K0 _ _ (Option.some.inj hf).symm
          subst eR; subst eH
          exact xs_iret d232_55 rt232
        · refine xs_if_eq (tgt := 53) d232_41 (by decide) (fun hp => absurd hp hc13) (fun _ => ?_)
          refine xs_aload_n d232_44 rfl ?_
          refine xe_getc (j := 0) d232_45 ky232 fl193 fk12_32 rfl ?_
          refine xs_iload_n d232_48 rfl ?_
          obtain ⟨hin14, hf⟩ := lk_g hf
          refine xe_iald d232_49 (by decide) ak62 hin14 ?_
          refine xs_goto (tgt := 55) d232_50 (by decide) ?_
          obtain ⟨eR, eH⟩ := K0 _ _ (Option.some.inj hf).symm
          subst eR; subst eH
          exact xs_iret d232_55 rt232
noncomputable def f_M_carry (v1 : Int32) (h : xH) : Option (Int32 × xH) := f_M_carry_e v1 h
theorem f_M_carry_ok {g : xG} {l : Launch} {d : Nat} {v1 : Int32} {h : xH} {r : Int32} {h1 : xH} (hD : 4 ≤ d) (hf : f_M_carry v1 h = some (r, h1)) : xC g l d 232 [xr 12 (some 0), xi v1] h (some (xi r)) h1 :=
  xC_of2 (by decide) mx232 (Nat.le_of_ble_eq_true rfl) (f_M_carry_e_ok hD hf (fun _ _ e => by cases e; exact ⟨rfl, rfl⟩))
theorem d233_0 : decode (xcode 233) 0 = .ok (.aload_n 0, 1) := by decide +kernel
theorem d233_1 : decode (xcode 233) 1 = .ok (.invokevirtual 349, 3) := by decide +kernel
theorem d233_4 : decode (xcode 233) 4 = .ok (.ifCond .eq 13, 3) := by decide +kernel
theorem d233_7 : decode (xcode 233) 7 = .ok (.iload_n 1, 1) := by decide +kernel
theorem d233_8 : decode (xcode 233) 8 = .ok (.i2l, 1) := by decide +kernel
theorem d233_9 : decode (xcode 233) 9 = .ok (.lconst 0, 1) := by decide +kernel
theorem d233_10 : decode (xcode 233) 10 = .ok (.lconst 1, 1) := by decide +kernel
theorem d233_11 : decode (xcode 233) 11 = .ok (.invokestatic 124, 3) := by decide +kernel
theorem d233_14 : decode (xcode 233) 14 = .ok (.ifCond .ne 5, 3) := by decide +kernel
theorem d233_17 : decode (xcode 233) 17 = .ok (.iconst (-1), 1) := by decide +kernel
theorem d233_18 : decode (xcode 233) 18 = .ok (.ireturn, 1) := by decide +kernel
theorem d233_19 : decode (xcode 233) 19 = .ok (.iconst (-1), 1) := by decide +kernel
theorem d233_20 : decode (xcode 233) 20 = .ok (.istore_n 2, 1) := by decide +kernel
theorem d233_21 : decode (xcode 233) 21 = .ok (.iconst 0, 1) := by decide +kernel
theorem d233_22 : decode (xcode 233) 22 = .ok (.istore_n 3, 1) := by decide +kernel
theorem d233_23 : decode (xcode 233) 23 = .ok (.iload_n 3, 1) := by decide +kernel
theorem d233_24 : decode (xcode 233) 24 = .ok (.iconst 1, 1) := by decide +kernel
theorem d233_25 : decode (xcode 233) 25 = .ok (.aload_n 0, 1) := by decide +kernel
theorem d233_26 : decode (xcode 233) 26 = .ok (.getfield 39, 3) := by decide +kernel
theorem d233_29 : decode (xcode 233) 29 = .ok (.iconst 4, 1) := by decide +kernel
theorem d233_30 : decode (xcode 233) 30 = .ok (.iaload, 1) := by decide +kernel
theorem d233_31 : decode (xcode 233) 31 = .ok (.ishl, 1) := by decide +kernel
theorem d233_32 : decode (xcode 233) 32 = .ok (.if_icmp .ge 86, 3) := by decide +kernel
theorem d233_35 : decode (xcode 233) 35 = .ok (.iconst 0, 1) := by decide +kernel
theorem d233_36 : decode (xcode 233) 36 = .ok (.istore 4, 2) := by decide +kernel
theorem d233_38 : decode (xcode 233) 38 = .ok (.iconst 0, 1) := by decide +kernel
theorem d233_39 : decode (xcode 233) 39 = .ok (.istore 5, 2) := by decide +kernel
theorem d233_41 : decode (xcode 233) 41 = .ok (.iload 5, 2) := by decide +kernel
theorem d233_43 : decode (xcode 233) 43 = .ok (.aload_n 0, 1) := by decide +kernel
theorem d233_44 : decode (xcode 233) 44 = .ok (.getfield 39, 3) := by decide +kernel
theorem d233_47 : decode (xcode 233) 47 = .ok (.iconst 4, 1) := by decide +kernel
theorem d233_48 : decode (xcode 233) 48 = .ok (.iaload, 1) := by decide +kernel
theorem d233_49 : decode (xcode 233) 49 = .ok (.if_icmp .ge 37, 3) := by decide +kernel
theorem d233_52 : decode (xcode 233) 52 = .ok (.iload 4, 2) := by decide +kernel
theorem d233_54 : decode (xcode 233) 54 = .ok (.iload_n 3, 1) := by decide +kernel
theorem d233_55 : decode (xcode 233) 55 = .ok (.iload 5, 2) := by decide +kernel
theorem d233_57 : decode (xcode 233) 57 = .ok (.invokestatic 301, 3) := by decide +kernel
theorem d233_60 : decode (xcode 233) 60 = .ok (.ifCond .eq 16, 3) := by decide +kernel
theorem d233_63 : decode (xcode 233) 63 = .ok (.aload_n 0, 1) := by decide +kernel
theorem d233_64 : decode (xcode 233) 64 = .ok (.getfield 39, 3) := by decide +kernel
theorem d233_67 : decode (xcode 233) 67 = .ok (.bipush 60, 2) := by decide +kernel
theorem d233_69 : decode (xcode 233) 69 = .ok (.iload 5, 2) := by decide +kernel
theorem d233_71 : decode (xcode 233) 71 = .ok (.iadd, 1) := by decide +kernel
theorem d233_72 : decode (xcode 233) 72 = .ok (.iaload, 1) := by decide +kernel
theorem d233_73 : decode (xcode 233) 73 = .ok (.goto 4, 3) := by decide +kernel
theorem d233_76 : decode (xcode 233) 76 = .ok (.iconst 0, 1) := by decide +kernel
theorem d233_77 : decode (xcode 233) 77 = .ok (.iadd, 1) := by decide +kernel
theorem d233_78 : decode (xcode 233) 78 = .ok (.istore 4, 2) := by decide +kernel
theorem d233_80 : decode (xcode 233) 80 = .ok (.iinc 5 1, 3) := by decide +kernel
theorem d233_83 : decode (xcode 233) 83 = .ok (.goto (-42), 3) := by decide +kernel
theorem d233_86 : decode (xcode 233) 86 = .ok (.iload 4, 2) := by decide +kernel
theorem d233_88 : decode (xcode 233) 88 = .ok (.aload_n 0, 1) := by decide +kernel
theorem d233_89 : decode (xcode 233) 89 = .ok (.invokevirtual 324, 3) := by decide +kernel
theorem d233_92 : decode (xcode 233) 92 = .ok (.if_icmp .lt 20, 3) := by decide +kernel
theorem d233_95 : decode (xcode 233) 95 = .ok (.iload_n 2, 1) := by decide +kernel
theorem d233_96 : decode (xcode 233) 96 = .ok (.ifCond .lt 14, 3) := by decide +kernel
theorem d233_99 : decode (xcode 233) 99 = .ok (.iload_n 3, 1) := by decide +kernel
theorem d233_100 : decode (xcode 233) 100 = .ok (.invokestatic 318, 3) := by decide +kernel
theorem d233_103 : decode (xcode 233) 103 = .ok (.iload_n 2, 1) := by decide +kernel
theorem d233_104 : decode (xcode 233) 104 = .ok (.invokestatic 318, 3) := by decide +kernel
theorem d233_107 : decode (xcode 233) 107 = .ok (.if_icmp .ge 5, 3) := by decide +kernel
theorem d233_110 : decode (xcode 233) 110 = .ok (.iload_n 3, 1) := by decide +kernel
theorem d233_111 : decode (xcode 233) 111 = .ok (.istore_n 2, 1) := by decide +kernel
theorem d233_112 : decode (xcode 233) 112 = .ok (.iinc 3 1, 3) := by decide +kernel
theorem d233_115 : decode (xcode 233) 115 = .ok (.goto (-92), 3) := by decide +kernel
theorem d233_118 : decode (xcode 233) 118 = .ok (.iload_n 2, 1) := by decide +kernel
theorem d233_119 : decode (xcode 233) 119 = .ok (.ifCond .ge 8, 3) := by decide +kernel
theorem d233_122 : decode (xcode 233) 122 = .ok (.bipush (-2), 2) := by decide +kernel
theorem d233_124 : decode (xcode 233) 124 = .ok (.goto 15, 3) := by decide +kernel
theorem d233_127 : decode (xcode 233) 127 = .ok (.iload_n 1, 1) := by decide +kernel
theorem d233_128 : decode (xcode 233) 128 = .ok (.ifCond .ne 10, 3) := by decide +kernel
theorem d233_131 : decode (xcode 233) 131 = .ok (.iload_n 2, 1) := by decide +kernel
theorem d233_132 : decode (xcode 233) 132 = .ok (.invokestatic 318, 3) := by decide +kernel
theorem d233_135 : decode (xcode 233) 135 = .ok (.goto 4, 3) := by decide +kernel
theorem d233_138 : decode (xcode 233) 138 = .ok (.iload_n 2, 1) := by decide +kernel
theorem d233_139 : decode (xcode 233) 139 = .ok (.ireturn, 1) := by decide +kernel
noncomputable def f_M_pole_b118 (v1 : Int32) (v2 : Int32) (h : xH) : Option Int32 :=
  if (0 : Int32) ≤ v2 then (
  if v1 = (0 : Int32) then (
  (f_M_bits v2 h).bind fun r10 =>
  some (r10)) else (
  some (v2))) else (
  some ((-2 : Int32)))
set_option maxHeartbeats 4000000 in
set_option maxRecDepth 100000 in
theorem f_M_pole_b118_ok {g : xG} {l : Launch} {d : Nat} {v1 : Int32} {v2 : Int32} {h : xH} {o : Int32} {R : Option xV} (hD : 4 ≤ d) (hf : f_M_pole_b118 v1 v2 h = some o) (K0 : ∀ (a : Int32), o = a → R = some (xi a)) : xEv g l d 233 118 [(1, xi v1), (2, xi v2)] [] h R h := by
  unfold f_M_pole_b118 at hf
  refine xs_iload_n d233_118 rfl ?_
  rcases lk_if hf with ⟨hc8, hf⟩ | ⟨hc8, hf⟩
  · refine xs_if_ge (tgt := 127) d233_119 (by decide) (fun _ => ?_) (fun hn => absurd hc8 hn)
    refine xs_iload_n d233_127 rfl ?_
    rcases lk_if hf with ⟨hc9, hf⟩ | ⟨hc9, hf⟩
    · refine xs_if_ne (tgt := 138) d233_128 (by decide) (fun _ => ?_) (fun hn => absurd hc9 hn)
      refine xs_iload_n d233_131 rfl ?_
      obtain ⟨r10, hc11, hf⟩ := lk_b hf
      refine xe_calls1 (as := [xi v2]) (st := []) (h2 := h) (d2 := d - 1) d233_132 ky233 ml234 st141 rfl na141 (Nat.le_of_ble_eq_true rfl) (by omega) (f_M_bits_ok (by omega) hc11) ?_
      refine xs_goto (tgt := 139) d233_135 (by decide) ?_
      obtain eR := K0 _ (Option.some.inj hf).symm
      subst eR
      exact xs_iret d233_139 rt233
    · refine xs_if_ne (tgt := 138) d233_128 (by decide) (fun hp => absurd hp hc9) (fun _ => ?_)
      refine xs_iload_n d233_138 rfl ?_
      obtain eR := K0 _ (Option.some.inj hf).symm
      subst eR
      exact xs_iret d233_139 rt233
  · refine xs_if_ge (tgt := 127) d233_119 (by decide) (fun hp => absurd hp hc8) (fun _ => ?_)
    refine xs_bipush (v := -2) d233_122 (by decide) ?_
    refine xs_goto (tgt := 139) d233_124 (by decide) ?_
    obtain eR := K0 _ (Option.some.inj hf).symm
    subst eR
    exact xs_iret d233_139 rt233
noncomputable def f_M_pole_b112 (v1 : Int32) (v2 : Int32) (v3 : Int32) (h : xH) : Option ((Int32 × Int32) ⊕ Int32) :=
  xlet (v3 + (1 : Int32)) fun v3_16 =>
  some (Sum.inl (v2, v3_16))
set_option maxHeartbeats 4000000 in
set_option maxRecDepth 100000 in
theorem f_M_pole_b112_ok {g : xG} {l : Launch} {d : Nat} {v1 : Int32} {v2 : Int32} {v3 : Int32} {h : xH} {o : ((Int32 × Int32) ⊕ Int32)} {R : Option xV} (hD : 4 ≤ d) (hf : f_M_pole_b112 v1 v2 v3 h = some o) (K1 : ∀ (w2 : Int32) (w3 : Int32), o = Sum.inl (w2, w3) → xEv g l d 233 23 [(0, xr 12 (some 0)), (1, xi v1), (2, xi w2), (3, xi w3)] [] h R h) (K0 : ∀ (a : Int32), o = Sum.inr (a) → R = some (xi a)) : xEv g l d 233 112 [(0, xr 12 (some 0)), (1, xi v1), (2, xi v2), (3, xi v3)] [] h R h := by
  unfold f_M_pole_b112 at hf
  obtain ⟨v3_16, ev3_16, hf⟩ := lk_let hf
  refine xe_iinc (v := v3_16) (b := 1) (ls2 := [(0, xr 12 (some 0)), (1, xi v1), (2, xi v2), (3, xi v3_16)]) d233_112 mx233 (by decide) rfl (by decide) ev3_16 rfl ?_
  refine xs_goto (tgt := 23) d233_115 (by decide) ?_
  exact K1 _ _ (Option.some.inj hf).symm
noncomputable def f_M_pole_b110 (v1 : Int32) (v3 : Int32) (h : xH) : Option ((Int32 × Int32) ⊕ Int32) :=
  f_M_pole_b112 v1 v3 v3 h
set_option maxHeartbeats 4000000 in
set_option maxRecDepth 100000 in
theorem f_M_pole_b110_ok {g : xG} {l : Launch} {d : Nat} {v1 : Int32} {v3 : Int32} {h : xH} {o : ((Int32 × Int32) ⊕ Int32)} {R : Option xV} (hD : 4 ≤ d) (hf : f_M_pole_b110 v1 v3 h = some o) (K1 : ∀ (w2 : Int32) (w3 : Int32), o = Sum.inl (w2, w3) → xEv g l d 233 23 [(0, xr 12 (some 0)), (1, xi v1), (2, xi w2), (3, xi w3)] [] h R h) (K0 : ∀ (a : Int32), o = Sum.inr (a) → R = some (xi a)) : xEv g l d 233 110 [(0, xr 12 (some 0)), (1, xi v1), (3, xi v3)] [] h R h := by
  unfold f_M_pole_b110 at hf
  refine xs_iload_n d233_110 rfl ?_
  refine xe_istore_n (v := v3) (ls2 := [(0, xr 12 (some 0)), (1, xi v1), (2, xi v3), (3, xi v3)]) d233_111 mx233 (by decide) rfl rfl ?_
  exact f_M_pole_b112_ok hD hf K1 K0
noncomputable def f_M_pole_b86 (v1 : Int32) (v2 : Int32) (v3 : Int32) (v4 : Int32) (h : xH) : Option ((Int32 × Int32) ⊕ Int32) :=
  (f_M_loadNow h).bind fun r13 =>
  if v4 < r13 then (
  f_M_pole_b112 v1 v2 v3 h) else (
  if v2 < (0 : Int32) then (
  f_M_pole_b110 v1 v3 h) else (
  (f_M_bits v3 h).bind fun r18 =>
  (f_M_bits v2 h).bind fun r20 =>
  if r20 ≤ r18 then (
  f_M_pole_b112 v1 v2 v3 h) else (
  f_M_pole_b110 v1 v3 h)))
set_option maxHeartbeats 4000000 in
set_option maxRecDepth 100000 in
theorem f_M_pole_b86_ok {g : xG} {l : Launch} {d : Nat} {v1 : Int32} {v2 : Int32} {v3 : Int32} {v4 : Int32} {h : xH} {o : ((Int32 × Int32) ⊕ Int32)} {R : Option xV} (hD : 4 ≤ d) (hf : f_M_pole_b86 v1 v2 v3 v4 h = some o) (K1 : ∀ (w2 : Int32) (w3 : Int32), o = Sum.inl (w2, w3) → xEv g l d 233 23 [(0, xr 12 (some 0)), (1, xi v1), (2, xi w2), (3, xi w3)] [] h R h) (K0 : ∀ (a : Int32), o = Sum.inr (a) → R = some (xi a)) : xEv g l d 233 86 [(0, xr 12 (some 0)), (1, xi v1), (2, xi v2), (3, xi v3), (4, xi v4)] [] h R h := by
  unfold f_M_pole_b86 at hf
  refine xs_iload d233_86 rfl ?_
  refine xs_aload_n d233_88 rfl ?_
  obtain ⟨r13, hc14, hf⟩ := lk_b hf
  refine xe_callv1 (as := []) (st := [xi v4]) (h2 := h) (d2 := d - 1) d233_89 ky233 ml236 st193 (by decide) cn193 rfl na193 (Nat.le_of_ble_eq_true rfl) (by omega) (f_M_loadNow_ok (by omega) hc14) ?_
  rcases lk_if hf with ⟨hc15, hf⟩ | ⟨hc15, hf⟩
  · refine xs_icmp_lt (tgt := 112) d233_92 (by decide) (fun _ => ?_) (fun hn => absurd hc15 hn)
    refine xs_pick [0, 1, 2, 3] rfl ?_
    exact f_M_pole_b112_ok hD hf K1 K0
  · refine xs_icmp_lt (tgt := 112) d233_92 (by decide) (fun hp => absurd hp hc15) (fun _ => ?_)
    refine xs_iload_n d233_95 rfl ?_
    rcases lk_if hf with ⟨hc17, hf⟩ | ⟨hc17, hf⟩
    · refine xs_if_lt (tgt := 110) d233_96 (by decide) (fun _ => ?_) (fun hn => absurd hc17 hn)
      refine xs_pick [0, 1, 3] rfl ?_
      exact f_M_pole_b110_ok hD hf K1 K0
    · refine xs_if_lt (tgt := 110) d233_96 (by decide) (fun hp => absurd hp hc17) (fun _ => ?_)
      refine xs_iload_n d233_99 rfl ?_
      obtain ⟨r18, hc19, hf⟩ := lk_b hf
      refine xe_calls1 (as := [xi v3]) (st := []) (h2 := h) (d2 := d - 1) d233_100 ky233 ml234 st141 rfl na141 (Nat.le_of_ble_eq_true rfl) (by omega) (f_M_bits_ok (by omega) hc19) ?_
      refine xs_iload_n d233_103 rfl ?_
      obtain ⟨r20, hc21, hf⟩ := lk_b hf
      refine xe_calls1 (as := [xi v2]) (st := [xi r18]) (h2 := h) (d2 := d - 1) d233_104 ky233 ml234 st141 rfl na141 (Nat.le_of_ble_eq_true rfl) (by omega) (f_M_bits_ok (by omega) hc21) ?_
      rcases lk_if hf with ⟨hc22, hf⟩ | ⟨hc22, hf⟩
      · refine xs_icmp_ge (tgt := 112) d233_107 (by decide) (fun _ => ?_) (fun hn => absurd hc22 hn)
        refine xs_pick [0, 1, 2, 3] rfl ?_
        exact f_M_pole_b112_ok hD hf K1 K0
      · refine xs_icmp_ge (tgt := 112) d233_107 (by decide) (fun hp => absurd hp hc22) (fun _ => ?_)
        refine xs_pick [0, 1, 3] rfl ?_
        exact f_M_pole_b110_ok hD hf K1 K0
noncomputable def f_M_pole_b77 (v1 : Int32) (v2 : Int32) (v3 : Int32) (v5 : Int32) (t0 : Int32) (t1 : Int32) (h : xH) : Option ((Int32 × Int32) ⊕ ((Int32 × Int32) ⊕ Int32)) :=
  xlet (t1 + t0) fun v4_26 =>
  xlet (v5 + (1 : Int32)) fun v5_27 =>
  some (Sum.inl (v4_26, v5_27))
set_option maxHeartbeats 4000000 in
set_option maxRecDepth 100000 in
theorem f_M_pole_b77_ok {g : xG} {l : Launch} {d : Nat} {v1 : Int32} {v2 : Int32} {v3 : Int32} {v5 : Int32} {t0 : Int32} {t1 : Int32} {h : xH} {o : ((Int32 × Int32) ⊕ ((Int32 × Int32) ⊕ Int32))} {R : Option xV} (hD : 4 ≤ d) (hf : f_M_pole_b77 v1 v2 v3 v5 t0 t1 h = some o) (K1 : ∀ (w2 : Int32) (w3 : Int32), o = Sum.inr (Sum.inl (w2, w3)) → xEv g l d 233 23 [(0, xr 12 (some 0)), (1, xi v1), (2, xi w2), (3, xi w3)] [] h R h) (K2 : ∀ (w4 : Int32) (w5 : Int32), o = Sum.inl (w4, w5) → xEv g l d 233 41 [(0, xr 12 (some 0)), (1, xi v1), (2, xi v2), (3, xi v3), (4, xi w4), (5, xi w5)] [] h R h) (K0 : ∀ (a : Int32), o = Sum.inr (Sum.inr (a)) → R = some (xi a)) : xEv g l d 233 77 [(0, xr 12 (some 0)), (1, xi v1), (2, xi v2), (3, xi v3), (5, xi v5)] [xi t0, xi t1] h R h := by
  unfold f_M_pole_b77 at hf
  refine xs_iadd d233_77 ?_
  obtain ⟨v4_26, ev4_26, hf⟩ := lk_let hf
  refine xe_istore (v := v4_26) (ls2 := [(0, xr 12 (some 0)), (1, xi v1), (2, xi v2), (3, xi v3), (4, xi v4_26), (5, xi v5)]) d233_78 mx233 (by decide) ev4_26 rfl ?_
  obtain ⟨v5_27, ev5_27, hf⟩ := lk_let hf
  refine xe_iinc (v := v5_27) (b := 1) (ls2 := [(0, xr 12 (some 0)), (1, xi v1), (2, xi v2), (3, xi v3), (4, xi v4_26), (5, xi v5_27)]) d233_80 mx233 (by decide) rfl (by decide) ev5_27 rfl ?_
  refine xs_goto (tgt := 41) d233_83 (by decide) ?_
  exact K2 _ _ (Option.some.inj hf).symm
noncomputable def f_M_pole_s41 (v1 : Int32) (v2 : Int32) (v3 : Int32) (v4 : Int32) (v5 : Int32) (h : xH) : Option ((Int32 × Int32) ⊕ ((Int32 × Int32) ⊕ Int32)) :=
  if (h.2.2.2.1 56 0 ((4 : Int32)).toNatClampNeg) ≤ v5 then (
  xup (f_M_pole_b86 v1 v2 v3 v4 h)) else (
  (f_M_isOf v3 v5 h).bind fun r23 =>
  if r23 = (0 : Int32) then (
  f_M_pole_b77 v1 v2 v3 v5 (0 : Int32) v4 h) else (
  if xib ((60 : Int32) + v5) 101 then (
  f_M_pole_b77 v1 v2 v3 v5 (h.2.2.2.1 56 0 ((60 : Int32) + v5).toNatClampNeg) v4 h) else none))
set_option maxHeartbeats 4000000 in
set_option maxRecDepth 100000 in
theorem f_M_pole_s41_ok {g : xG} {l : Launch} {d : Nat} {v1 : Int32} {v2 : Int32} {v3 : Int32} {v4 : Int32} {v5 : Int32} {h : xH} {o : ((Int32 × Int32) ⊕ ((Int32 × Int32) ⊕ Int32))} {R : Option xV} (hD : 4 ≤ d) (hf : f_M_pole_s41 v1 v2 v3 v4 v5 h = some o) (K1 : ∀ (w2 : Int32) (w3 : Int32), o = Sum.inr (Sum.inl (w2, w3)) → xEv g l d 233 23 [(0, xr 12 (some 0)), (1, xi v1), (2, xi w2), (3, xi w3)] [] h R h) (K2 : ∀ (w4 : Int32) (w5 : Int32), o = Sum.inl (w4, w5) → xEv g l d 233 41 [(0, xr 12 (some 0)), (1, xi v1), (2, xi v2), (3, xi v3), (4, xi w4), (5, xi w5)] [] h R h) (K0 : ∀ (a : Int32), o = Sum.inr (Sum.inr (a)) → R = some (xi a)) : xEv g l d 233 41 [(0, xr 12 (some 0)), (1, xi v1), (2, xi v2), (3, xi v3), (4, xi v4), (5, xi v5)] [] h R h := by
  unfold f_M_pole_s41 at hf
  refine xs_iload d233_41 rfl ?_
  refine xs_aload_n d233_43 rfl ?_
  refine xe_getc (j := 0) d233_44 ky233 fl181 fk12_20 rfl ?_
  refine xs_iconst (v := 4) d233_47 (by decide) ?_
  refine xe_iald d233_48 (by decide) ak56 (show xib (4 : Int32) 101 by decide) ?_
  rcases lk_if hf with ⟨hc12, hf⟩ | ⟨hc12, hf⟩
  · refine xs_icmp_ge (tgt := 86) d233_49 (by decide) (fun _ => ?_) (fun hn => absurd hc12 hn)
    refine xs_pick [0, 1, 2, 3, 4] rfl ?_
    obtain ⟨x0, hf, ex0⟩ := lk_up hf
    exact f_M_pole_b86_ok hD hf (fun u0 u1 e => K1 u0 u1 (ex0.trans (congrArg Sum.inr e))) (fun u0 e => K0 u0 (ex0.trans (congrArg Sum.inr e)))
  · refine xs_icmp_ge (tgt := 86) d233_49 (by decide) (fun hp => absurd hp hc12) (fun _ => ?_)
    refine xs_iload d233_52 rfl ?_
    refine xs_iload_n d233_54 rfl ?_
    refine xs_iload d233_55 rfl ?_
    obtain ⟨r23, hc24, hf⟩ := lk_b hf
    refine xe_calls1 (as := [xi v3, xi v5]) (st := [xi v4]) (h2 := h) (d2 := d - 1) d233_57 ky233 ml233 st140 rfl na140 (Nat.le_of_ble_eq_true rfl) (by omega) (f_M_isOf_ok (by omega) hc24) ?_
    rcases lk_if hf with ⟨hc25, hf⟩ | ⟨hc25, hf⟩
    · refine xs_if_eq (tgt := 76) d233_60 (by decide) (fun _ => ?_) (fun hn => absurd hc25 hn)
      refine xs_iconst (v := 0) d233_76 (by decide) ?_
      refine xs_pick [0, 1, 2, 3, 5] rfl ?_
      exact f_M_pole_b77_ok hD hf K1 K2 K0
    · refine xs_if_eq (tgt := 76) d233_60 (by decide) (fun hp => absurd hp hc25) (fun _ => ?_)
      refine xs_aload_n d233_63 rfl ?_
      refine xe_getc (j := 0) d233_64 ky233 fl181 fk12_20 rfl ?_
      refine xs_bipush (v := 60) d233_67 (by decide) ?_
      refine xs_iload d233_69 rfl ?_
      refine xs_iadd d233_71 ?_
      obtain ⟨hin28, hf⟩ := lk_g hf
      refine xe_iald d233_72 (by decide) ak56 hin28 ?_
      refine xs_goto (tgt := 77) d233_73 (by decide) ?_
      refine xs_pick [0, 1, 2, 3, 5] rfl ?_
      exact f_M_pole_b77_ok hD hf K1 K2 K0
noncomputable def f_M_pole_l41 (v1 : Int32) (v2 : Int32) (v3 : Int32) (v4 : Int32) (v5 : Int32) (h : xH) : Option ((Int32 × Int32) ⊕ Int32) :=
  whl (fun s => f_M_pole_s41 v1 v2 v3 s.1 s.2 h) (v4, v5)
theorem f_M_pole_l41_ok {g : xG} {l : Launch} {d : Nat} {v1 : Int32} {v2 : Int32} {v3 : Int32} {v4 : Int32} {v5 : Int32} {h : xH} {o : ((Int32 × Int32) ⊕ Int32)} {R : Option xV} (hD : 4 ≤ d) (hf : f_M_pole_l41 v1 v2 v3 v4 v5 h = some o) (K1 : ∀ (w2 : Int32) (w3 : Int32), o = Sum.inl (w2, w3) → xEv g l d 233 23 [(0, xr 12 (some 0)), (1, xi v1), (2, xi w2), (3, xi w3)] [] h R h) (K0 : ∀ (a : Int32), o = Sum.inr (a) → R = some (xi a)) : xEv g l d 233 41 [(0, xr 12 (some 0)), (1, xi v1), (2, xi v2), (3, xi v3), (4, xi v4), (5, xi v5)] [] h R h := by
  obtain ⟨n, hn⟩ := whl_iff.mp hf
  clear hf
  induction n generalizing v4 v5 with
  | zero => cases hn
  | succ n ih =>
    obtain ⟨o2, hs, hn⟩ := lk_b (show (f_M_pole_s41 v1 v2 v3 v4 v5 h).bind (fun o => Sum.elim (itn _ n) some o) = some o from hn)
    exact f_M_pole_s41_ok hD hs (fun u0 u1 e => K1 u0 u1 (by rw [e] at hn; exact (Option.some.inj hn).symm)) (fun u0 u1 e => ih (by rw [e] at hn; exact hn)) (fun u0 e => K0 u0 (by rw [e] at hn; exact (Option.some.inj hn).symm))
noncomputable def f_M_pole_s23 (v1 : Int32) (v2 : Int32) (v3 : Int32) (h : xH) : Option ((Int32 × Int32) ⊕ Int32) :=
  if ((1 : Int32) <<< ((h.2.2.2.1 56 0 ((4 : Int32)).toNatClampNeg) &&& 31)) ≤ v3 then (
  xup (f_M_pole_b118 v1 v2 h)) else (
  f_M_pole_l41 v1 v2 v3 (0 : Int32) (0 : Int32) h)
set_option maxHeartbeats 4000000 in
set_option maxRecDepth 100000 in
theorem f_M_pole_s23_ok {g : xG} {l : Launch} {d : Nat} {v1 : Int32} {v2 : Int32} {v3 : Int32} {h : xH} {o : ((Int32 × Int32) ⊕ Int32)} {R : Option xV} (hD : 4 ≤ d) (hf : f_M_pole_s23 v1 v2 v3 h = some o) (K1 : ∀ (w2 : Int32) (w3 : Int32), o = Sum.inl (w2, w3) → xEv g l d 233 23 [(0, xr 12 (some 0)), (1, xi v1), (2, xi w2), (3, xi w3)] [] h R h) (K0 : ∀ (a : Int32), o = Sum.inr (a) → R = some (xi a)) : xEv g l d 233 23 [(0, xr 12 (some 0)), (1, xi v1), (2, xi v2), (3, xi v3)] [] h R h := by
  unfold f_M_pole_s23 at hf
  refine xs_iload_n d233_23 rfl ?_
  refine xs_iconst (v := 1) d233_24 (by decide) ?_
  refine xs_aload_n d233_25 rfl ?_
  refine xe_getc (j := 0) d233_26 ky233 fl181 fk12_20 rfl ?_
  refine xs_iconst (v := 4) d233_29 (by decide) ?_
  refine xe_iald d233_30 (by decide) ak56 (show xib (4 : Int32) 101 by decide) ?_
  refine xs_ishl d233_31 ?_
  rcases lk_if hf with ⟨hc7, hf⟩ | ⟨hc7, hf⟩
  · refine xs_icmp_ge (tgt := 118) d233_32 (by decide) (fun _ => ?_) (fun hn => absurd hc7 hn)
    refine xs_pick [1, 2] rfl ?_
    obtain ⟨x0, hf, ex0⟩ := lk_up hf
    exact f_M_pole_b118_ok hD hf (fun u0 e => K0 u0 (ex0.trans (congrArg Sum.inr e)))
  · refine xs_icmp_ge (tgt := 118) d233_32 (by decide) (fun hp => absurd hp hc7) (fun _ => ?_)
    refine xs_iconst (v := 0) d233_35 (by decide) ?_
    refine xe_istore (v := (0 : Int32)) (ls2 := [(0, xr 12 (some 0)), (1, xi v1), (2, xi v2), (3, xi v3), (4, xi (0 : Int32))]) d233_36 mx233 (by decide) rfl rfl ?_
    refine xs_iconst (v := 0) d233_38 (by decide) ?_
    refine xe_istore (v := (0 : Int32)) (ls2 := [(0, xr 12 (some 0)), (1, xi v1), (2, xi v2), (3, xi v3), (4, xi (0 : Int32)), (5, xi (0 : Int32))]) d233_39 mx233 (by decide) rfl rfl ?_
    exact f_M_pole_l41_ok hD hf K1 K0
noncomputable def f_M_pole_l23 (v1 : Int32) (v2 : Int32) (v3 : Int32) (h : xH) : Option Int32 :=
  whl (fun s => f_M_pole_s23 v1 s.1 s.2 h) (v2, v3)
theorem f_M_pole_l23_ok {g : xG} {l : Launch} {d : Nat} {v1 : Int32} {v2 : Int32} {v3 : Int32} {h : xH} {o : Int32} {R : Option xV} (hD : 4 ≤ d) (hf : f_M_pole_l23 v1 v2 v3 h = some o) (K0 : ∀ (a : Int32), o = a → R = some (xi a)) : xEv g l d 233 23 [(0, xr 12 (some 0)), (1, xi v1), (2, xi v2), (3, xi v3)] [] h R h := by
  obtain ⟨n, hn⟩ := whl_iff.mp hf
  clear hf
  induction n generalizing v2 v3 with
  | zero => cases hn
  | succ n ih =>
    obtain ⟨o2, hs, hn⟩ := lk_b (show (f_M_pole_s23 v1 v2 v3 h).bind (fun o => Sum.elim (itn _ n) some o) = some o from hn)
    exact f_M_pole_s23_ok hD hs (fun u0 u1 e => ih (by rw [e] at hn; exact hn)) (fun u0 e => K0 u0 (by rw [e] at hn; exact (Option.some.inj hn).symm))
noncomputable def f_M_pole_e (v1 : Int32) (h : xH) : Option Int32 :=
  (f_M_isTrug h).bind fun r1 =>
  if r1 = (0 : Int32) then (
  some ((-1 : Int32))) else (
  (f_M_in ((v1).toInt64) (0 : Int64) (1 : Int64) h).bind fun r4 =>
  if r4 = (0 : Int32) then (
  some ((-1 : Int32))) else (
  f_M_pole_l23 v1 (-1 : Int32) (0 : Int32) h))
set_option maxHeartbeats 4000000 in
set_option maxRecDepth 100000 in
theorem f_M_pole_e_ok {g : xG} {l : Launch} {d : Nat} {v1 : Int32} {h : xH} {o : Int32} {R : Option xV} (hD : 4 ≤ d) (hf : f_M_pole_e v1 h = some o) (K0 : ∀ (a : Int32), o = a → R = some (xi a)) : xEv g l d 233 0 [(0, xr 12 (some 0)), (1, xi v1)] [] h R h := by
  unfold f_M_pole_e at hf
  refine xs_aload_n d233_0 rfl ?_
  obtain ⟨r1, hc2, hf⟩ := lk_b hf
  refine xe_callv1 (as := []) (st := []) (h2 := h) (d2 := d - 1) d233_1 ky233 ml225 st184 (by decide) cn184 rfl na184 (Nat.le_of_ble_eq_true rfl) (by omega) (f_M_isTrug_ok (by omega) hc2) ?_
  rcases lk_if hf with ⟨hc3, hf⟩ | ⟨hc3, hf⟩
  · refine xs_if_eq (tgt := 17) d233_4 (by decide) (fun _ => ?_) (fun hn => absurd hc3 hn)
    refine xs_iconst (v := -1) d233_17 (by decide) ?_
    obtain eR := K0 _ (Option.some.inj hf).symm
    subst eR
    exact xs_iret d233_18 rt233
  · refine xs_if_eq (tgt := 17) d233_4 (by decide) (fun hp => absurd hp hc3) (fun _ => ?_)
    refine xs_iload_n d233_7 rfl ?_
    refine xs_i2l d233_8 ?_
    refine xs_lconst (v := 0) d233_9 (by decide) ?_
    refine xs_lconst (v := 1) d233_10 (by decide) ?_
    obtain ⟨r4, hc5, hf⟩ := lk_b hf
    refine xe_calls1 (as := [xl ((v1).toInt64), xl (0 : Int64), xl (1 : Int64)]) (st := []) (h2 := h) (d2 := d - 1) d233_11 ky233 ml196 st139 rfl na139 (Nat.le_of_ble_eq_true rfl) (by omega) (f_M_in_ok (by omega) hc5) ?_
    rcases lk_if hf with ⟨hc6, hf⟩ | ⟨hc6, hf⟩
    · refine xs_if_ne (tgt := 19) d233_14 (by decide) (fun _ => ?_) (fun hn => absurd hc6 hn)
      refine xs_iconst (v := -1) d233_17 (by decide) ?_
      obtain eR := K0 _ (Option.some.inj hf).symm
      subst eR
      exact xs_iret d233_18 rt233
    · refine xs_if_ne (tgt := 19) d233_14 (by decide) (fun hp => absurd hp hc6) (fun _ => ?_)
      refine xs_iconst (v := -1) d233_19 (by decide) ?_
      refine xe_istore_n (v := (-1 : Int32)) (ls2 := [(0, xr 12 (some 0)), (1, xi v1), (2, xi (-1 : Int32))]) d233_20 mx233 (by decide) rfl rfl ?_
      refine xs_iconst (v := 0) d233_21 (by decide) ?_
      refine xe_istore_n (v := (0 : Int32)) (ls2 := [(0, xr 12 (some 0)), (1, xi v1), (2, xi (-1 : Int32)), (3, xi (0 : Int32))]) d233_22 mx233 (by decide) rfl rfl ?_
      exact f_M_pole_l23_ok hD hf K0
noncomputable def f_M_pole (v1 : Int32) (h : xH) : Option Int32 := f_M_pole_e v1 h
theorem f_M_pole_ok {g : xG} {l : Launch} {d : Nat} {v1 : Int32} {h : xH} {r : Int32} (hD : 4 ≤ d) (hf : f_M_pole v1 h = some r) : xC g l d 233 [xr 12 (some 0), xi v1] h (some (xi r)) h :=
  xC_of2 (by decide) mx233 (Nat.le_of_ble_eq_true rfl) (f_M_pole_e_ok hD hf (fun _ e => by rw [e]))
theorem d234_0 : decode (xcode 234) 0 = .ok (.aload_n 0, 1) := by decide +kernel
theorem d234_1 : decode (xcode 234) 1 = .ok (.invokevirtual 349, 3) := by decide +kernel
theorem d234_4 : decode (xcode 234) 4 = .ok (.ifCond .eq 15, 3) := by decide +kernel
theorem d234_7 : decode (xcode 234) 7 = .ok (.iload_n 1, 1) := by decide +kernel
theorem d234_8 : decode (xcode 234) 8 = .ok (.i2l, 1) := by decide +kernel
theorem d234_9 : decode (xcode 234) 9 = .ok (.lconst 0, 1) := by decide +kernel
theorem d234_10 : decode (xcode 234) 10 = .ok (.ldc2_w 419, 3) := by decide +kernel
theorem d234_13 : decode (xcode 234) 13 = .ok (.invokestatic 124, 3) := by decide +kernel
theorem d234_16 : decode (xcode 234) 16 = .ok (.ifCond .ne 5, 3) := by decide +kernel
theorem d234_19 : decode (xcode 234) 19 = .ok (.iconst (-1), 1) := by decide +kernel
theorem d234_20 : decode (xcode 234) 20 = .ok (.ireturn, 1) := by decide +kernel
theorem d234_21 : decode (xcode 234) 21 = .ok (.bipush (-2), 2) := by decide +kernel
theorem d234_23 : decode (xcode 234) 23 = .ok (.istore_n 2, 1) := by decide +kernel
theorem d234_24 : decode (xcode 234) 24 = .ok (.aload_n 0, 1) := by decide +kernel
theorem d234_25 : decode (xcode 234) 25 = .ok (.invokevirtual 363, 3) := by decide +kernel
theorem d234_28 : decode (xcode 234) 28 = .ok (.iconst 0, 1) := by decide +kernel
theorem d234_29 : decode (xcode 234) 29 = .ok (.istore_n 3, 1) := by decide +kernel
theorem d234_30 : decode (xcode 234) 30 = .ok (.iload_n 3, 1) := by decide +kernel
theorem d234_31 : decode (xcode 234) 31 = .ok (.bipush 100, 2) := by decide +kernel
theorem d234_33 : decode (xcode 234) 33 = .ok (.if_icmp .gt 28, 3) := by decide +kernel
theorem d234_36 : decode (xcode 234) 36 = .ok (.iload_n 2, 1) := by decide +kernel
theorem d234_37 : decode (xcode 234) 37 = .ok (.ifCond .ge 24, 3) := by decide +kernel
theorem d234_40 : decode (xcode 234) 40 = .ok (.aload_n 0, 1) := by decide +kernel
theorem d234_41 : decode (xcode 234) 41 = .ok (.invokevirtual 324, 3) := by decide +kernel
theorem d234_44 : decode (xcode 234) 44 = .ok (.iload_n 1, 1) := by decide +kernel
theorem d234_45 : decode (xcode 234) 45 = .ok (.if_icmp .gt 5, 3) := by decide +kernel
theorem d234_48 : decode (xcode 234) 48 = .ok (.iload_n 3, 1) := by decide +kernel
theorem d234_49 : decode (xcode 234) 49 = .ok (.istore_n 2, 1) := by decide +kernel
theorem d234_50 : decode (xcode 234) 50 = .ok (.aload_n 0, 1) := by decide +kernel
theorem d234_51 : decode (xcode 234) 51 = .ok (.invokevirtual 346, 3) := by decide +kernel
theorem d234_54 : decode (xcode 234) 54 = .ok (.pop, 1) := by decide +kernel
theorem d234_55 : decode (xcode 234) 55 = .ok (.iinc 3 1, 3) := by decide +kernel
theorem d234_58 : decode (xcode 234) 58 = .ok (.goto (-28), 3) := by decide +kernel
theorem d234_61 : decode (xcode 234) 61 = .ok (.aload_n 0, 1) := by decide +kernel
theorem d234_62 : decode (xcode 234) 62 = .ok (.invokevirtual 369, 3) := by decide +kernel
theorem d234_65 : decode (xcode 234) 65 = .ok (.iload_n 2, 1) := by decide +kernel
theorem d234_66 : decode (xcode 234) 66 = .ok (.ireturn, 1) := by decide +kernel
noncomputable def f_M_light_b61 (v2 : Int32) (h : xH) : Option (Int32 × xH) :=
  (f_M_laysBack h).bind fun h13 =>
  some ((v2, h13))
set_option maxHeartbeats 4000000 in
set_option maxRecDepth 100000 in
theorem f_M_light_b61_ok {g : xG} {l : Launch} {d : Nat} {v2 : Int32} {h : xH} {o : (Int32 × xH)} {R : Option xV} {H' : xH} (hD : 8 ≤ d) (hf : f_M_light_b61 v2 h = some o) (K0 : ∀ (a : Int32) (h1 : xH), o = (a, h1) → R = some (xi a) ∧ H' = h1) : xEv g l d 234 61 [(0, xr 12 (some 0)), (2, xi v2)] [] h R H' := by
  unfold f_M_light_b61 at hf
  refine xs_aload_n d234_61 rfl ?_
  obtain ⟨h13, hc12, hf⟩ := lk_b hf
  refine xe_callv0 (as := []) (st := []) (h2 := h13) (d2 := d - 1) d234_62 ky234 ml254 st213 (by decide) cn213 rfl na213 (Nat.le_of_ble_eq_true rfl) (by omega) (f_M_laysBack_ok (by omega) hc12) ?_
  refine xs_iload_n d234_65 rfl ?_
  obtain ⟨eR, eH⟩ := K0 _ _ (Option.some.inj hf).symm
  subst eR; subst eH
  exact xs_iret d234_66 rt234
noncomputable def f_M_light_b50 (v1 : Int32) (v2 : Int32) (v3 : Int32) (h : xH) : Option ((Int32 × Int32 × xH) ⊕ (Int32 × xH)) :=
  (f_M_passes h).bind fun q20 =>
  xlet (v3 + (1 : Int32)) fun v3_21 =>
  some (Sum.inl (v2, v3_21, q20.2))
set_option maxHeartbeats 4000000 in
set_option maxRecDepth 100000 in
theorem f_M_light_b50_ok {g : xG} {l : Launch} {d : Nat} {v1 : Int32} {v2 : Int32} {v3 : Int32} {h : xH} {o : ((Int32 × Int32 × xH) ⊕ (Int32 × xH))} {R : Option xV} {H' : xH} (hD : 8 ≤ d) (hf : f_M_light_b50 v1 v2 v3 h = some o) (K1 : ∀ (w2 : Int32) (w3 : Int32) (h1 : xH), o = Sum.inl (w2, w3, h1) → xEv g l d 234 30 [(0, xr 12 (some 0)), (1, xi v1), (2, xi w2), (3, xi w3)] [] h1 R H') (K0 : ∀ (a : Int32) (h1 : xH), o = Sum.inr ((a, h1)) → R = some (xi a) ∧ H' = h1) : xEv g l d 234 50 [(0, xr 12 (some 0)), (1, xi v1), (2, xi v2), (3, xi v3)] [] h R H' := by
  unfold f_M_light_b50 at hf
  refine xs_aload_n d234_50 rfl ?_
  obtain ⟨q20, hc19, hf⟩ := lk_b hf
  refine xe_callv1 (as := []) (st := []) (h2 := q20.2) (d2 := d - 1) d234_51 ky234 ml227 st203 (by decide) cn203 rfl na203 (Nat.le_of_ble_eq_true rfl) (by omega) (f_M_passes_ok (by omega) hc19) ?_
  refine xs_pop d234_54 rfl ?_
  obtain ⟨v3_21, ev3_21, hf⟩ := lk_let hf
  refine xe_iinc (v := v3_21) (b := 1) (ls2 := [(0, xr 12 (some 0)), (1, xi v1), (2, xi v2), (3, xi v3_21)]) d234_55 mx234 (by decide) rfl (by decide) ev3_21 rfl ?_
  refine xs_goto (tgt := 30) d234_58 (by decide) ?_
  exact K1 _ _ _ (Option.some.inj hf).symm
noncomputable def f_M_light_s30 (v1 : Int32) (v2 : Int32) (v3 : Int32) (h : xH) : Option ((Int32 × Int32 × xH) ⊕ (Int32 × xH)) :=
  if (100 : Int32) < v3 then (
  xup (f_M_light_b61 v2 h)) else (
  if (0 : Int32) ≤ v2 then (
  xup (f_M_light_b61 v2 h)) else (
  (f_M_loadNow h).bind fun r15 =>
  if v1 < r15 then (
  f_M_light_b50 v1 v2 v3 h) else (
  f_M_light_b50 v1 v3 v3 h)))
set_option maxHeartbeats 4000000 in
set_option maxRecDepth 100000 in
theorem f_M_light_s30_ok {g : xG} {l : Launch} {d : Nat} {v1 : Int32} {v2 : Int32} {v3 : Int32} {h : xH} {o : ((Int32 × Int32 × xH) ⊕ (Int32 × xH))} {R : Option xV} {H' : xH} (hD : 8 ≤ d) (hf : f_M_light_s30 v1 v2 v3 h = some o) (K1 : ∀ (w2 : Int32) (w3 : Int32) (h1 : xH), o = Sum.inl (w2, w3, h1) → xEv g l d 234 30 [(0, xr 12 (some 0)), (1, xi v1), (2, xi w2), (3, xi w3)] [] h1 R H') (K0 : ∀ (a : Int32) (h1 : xH), o = Sum.inr ((a, h1)) → R = some (xi a) ∧ H' = h1) : xEv g l d 234 30 [(0, xr 12 (some 0)), (1, xi v1), (2, xi v2), (3, xi v3)] [] h R H' := by
  unfold f_M_light_s30 at hf
  refine xs_iload_n d234_30 rfl ?_
  refine xs_bipush (v := 100) d234_31 (by decide) ?_
  rcases lk_if hf with ⟨hc10, hf⟩ | ⟨hc10, hf⟩
  · refine xs_icmp_gt (tgt := 61) d234_33 (by decide) (fun _ => ?_) (fun hn => absurd hc10 hn)
    refine xs_pick [0, 2] rfl ?_
    obtain ⟨x0, hf, ex0⟩ := lk_up hf
    exact f_M_light_b61_ok hD hf (fun u0 u1 e => K0 u0 u1 (ex0.trans (congrArg Sum.inr e)))
  · refine xs_icmp_gt (tgt := 61) d234_33 (by decide) (fun hp => absurd hp hc10) (fun _ => ?_)
    refine xs_iload_n d234_36 rfl ?_
    rcases lk_if hf with ⟨hc14, hf⟩ | ⟨hc14, hf⟩
    · refine xs_if_ge (tgt := 61) d234_37 (by decide) (fun _ => ?_) (fun hn => absurd hc14 hn)
      refine xs_pick [0, 2] rfl ?_
      obtain ⟨x0, hf, ex0⟩ := lk_up hf
      exact f_M_light_b61_ok hD hf (fun u0 u1 e => K0 u0 u1 (ex0.trans (congrArg Sum.inr e)))
    · refine xs_if_ge (tgt := 61) d234_37 (by decide) (fun hp => absurd hp hc14) (fun _ => ?_)
      refine xs_aload_n d234_40 rfl ?_
      obtain ⟨r15, hc16, hf⟩ := lk_b hf
      refine xe_callv1 (as := []) (st := []) (h2 := h) (d2 := d - 1) d234_41 ky234 ml236 st193 (by decide) cn193 rfl na193 (Nat.le_of_ble_eq_true rfl) (by omega) (f_M_loadNow_ok (by omega) hc16) ?_
      refine xs_iload_n d234_44 rfl ?_
      rcases lk_if hf with ⟨hc17, hf⟩ | ⟨hc17, hf⟩
      · refine xs_icmp_gt (tgt := 50) d234_45 (by decide) (fun _ => ?_) (fun hn => absurd hc17 hn)
        exact f_M_light_b50_ok hD hf K1 K0
      · refine xs_icmp_gt (tgt := 50) d234_45 (by decide) (fun hp => absurd hp hc17) (fun _ => ?_)
        refine xs_iload_n d234_48 rfl ?_
        refine xe_istore_n (v := v3) (ls2 := [(0, xr 12 (some 0)), (1, xi v1), (2, xi v3), (3, xi v3)]) d234_49 mx234 (by decide) rfl rfl ?_
        exact f_M_light_b50_ok hD hf K1 K0
noncomputable def f_M_light_l30 (v1 : Int32) (v2 : Int32) (v3 : Int32) (h : xH) : Option (Int32 × xH) :=
  whl (fun s => f_M_light_s30 v1 s.1 s.2.1 s.2.2) (v2, v3, h)
theorem f_M_light_l30_ok {g : xG} {l : Launch} {d : Nat} {v1 : Int32} {v2 : Int32} {v3 : Int32} {h : xH} {o : (Int32 × xH)} {R : Option xV} {H' : xH} (hD : 8 ≤ d) (hf : f_M_light_l30 v1 v2 v3 h = some o) (K0 : ∀ (a : Int32) (h1 : xH), o = (a, h1) → R = some (xi a) ∧ H' = h1) : xEv g l d 234 30 [(0, xr 12 (some 0)), (1, xi v1), (2, xi v2), (3, xi v3)] [] h R H' := by
  obtain ⟨n, hn⟩ := whl_iff.mp hf
  clear hf
  induction n generalizing v2 v3 h with
  | zero => cases hn
  | succ n ih =>
    obtain ⟨o2, hs, hn⟩ := lk_b (show (f_M_light_s30 v1 v2 v3 h).bind (fun o => Sum.elim (itn _ n) some o) = some o from hn)
    exact f_M_light_s30_ok hD hs (fun u0 u1 u2 e => ih (by rw [e] at hn; exact hn)) (fun u0 u1 e => K0 u0 u1 (by rw [e] at hn; exact (Option.some.inj hn).symm))
noncomputable def f_M_light_e (v1 : Int32) (h : xH) : Option (Int32 × xH) :=
  (f_M_isTrug h).bind fun r1 =>
  if r1 = (0 : Int32) then (
  some (((-1 : Int32), h))) else (
  (f_M_in ((v1).toInt64) (0 : Int64) (200 : Int64) h).bind fun r4 =>
  if r4 = (0 : Int32) then (
  some (((-1 : Int32), h))) else (
  (f_M_keeps h).bind fun h9 =>
  f_M_light_l30 v1 (-2 : Int32) (0 : Int32) h9))
set_option maxHeartbeats 4000000 in
set_option maxRecDepth 100000 in
theorem f_M_light_e_ok {g : xG} {l : Launch} {d : Nat} {v1 : Int32} {h : xH} {o : (Int32 × xH)} {R : Option xV} {H' : xH} (hD : 8 ≤ d) (hf : f_M_light_e v1 h = some o) (K0 : ∀ (a : Int32) (h1 : xH), o = (a, h1) → R = some (xi a) ∧ H' = h1) : xEv g l d 234 0 [(0, xr 12 (some 0)), (1, xi v1)] [] h R H' := by
  unfold f_M_light_e at hf
  refine xs_aload_n d234_0 rfl ?_
  obtain ⟨r1, hc2, hf⟩ := lk_b hf
  refine xe_callv1 (as := []) (st := []) (h2 := h) (d2 := d - 1) d234_1 ky234 ml225 st184 (by decide) cn184 rfl na184 (Nat.le_of_ble_eq_true rfl) (by omega) (f_M_isTrug_ok (by omega) hc2) ?_
  rcases lk_if hf with ⟨hc3, hf⟩ | ⟨hc3, hf⟩
  · refine xs_if_eq (tgt := 19) d234_4 (by decide) (fun _ => ?_) (fun hn => absurd hc3 hn)
    refine xs_iconst (v := -1) d234_19 (by decide) ?_
    obtain ⟨eR, eH⟩ := K0 _ _ (Option.some.inj hf).symm
    subst eR; subst eH
    exact xs_iret d234_20 rt234
  · refine xs_if_eq (tgt := 19) d234_4 (by decide) (fun hp => absurd hp hc3) (fun _ => ?_)
    refine xs_iload_n d234_7 rfl ?_
    refine xs_i2l d234_8 ?_
    refine xs_lconst (v := 0) d234_9 (by decide) ?_
    refine xs_ldc2 (v := 200) d234_10 cl12_419 ?_
    obtain ⟨r4, hc5, hf⟩ := lk_b hf
    refine xe_calls1 (as := [xl ((v1).toInt64), xl (0 : Int64), xl (200 : Int64)]) (st := []) (h2 := h) (d2 := d - 1) d234_13 ky234 ml196 st139 rfl na139 (Nat.le_of_ble_eq_true rfl) (by omega) (f_M_in_ok (by omega) hc5) ?_
    rcases lk_if hf with ⟨hc6, hf⟩ | ⟨hc6, hf⟩
    · refine xs_if_ne (tgt := 21) d234_16 (by decide) (fun _ => ?_) (fun hn => absurd hc6 hn)
      refine xs_iconst (v := -1) d234_19 (by decide) ?_
      obtain ⟨eR, eH⟩ := K0 _ _ (Option.some.inj hf).symm
      subst eR; subst eH
      exact xs_iret d234_20 rt234
    · refine xs_if_ne (tgt := 21) d234_16 (by decide) (fun hp => absurd hp hc6) (fun _ => ?_)
      refine xs_bipush (v := -2) d234_21 (by decide) ?_
      refine xe_istore_n (v := (-2 : Int32)) (ls2 := [(0, xr 12 (some 0)), (1, xi v1), (2, xi (-2 : Int32))]) d234_23 mx234 (by decide) rfl rfl ?_
      refine xs_aload_n d234_24 rfl ?_
      obtain ⟨h9, hc8, hf⟩ := lk_b hf
      refine xe_callv0 (as := []) (st := []) (h2 := h9) (d2 := d - 1) d234_25 ky234 ml252 st212 (by decide) cn212 rfl na212 (Nat.le_of_ble_eq_true rfl) (by omega) (f_M_keeps_ok (by omega) hc8) ?_
      refine xs_iconst (v := 0) d234_28 (by decide) ?_
      refine xe_istore_n (v := (0 : Int32)) (ls2 := [(0, xr 12 (some 0)), (1, xi v1), (2, xi (-2 : Int32)), (3, xi (0 : Int32))]) d234_29 mx234 (by decide) rfl rfl ?_
      exact f_M_light_l30_ok hD hf K0
noncomputable def f_M_light (v1 : Int32) (h : xH) : Option (Int32 × xH) := f_M_light_e v1 h
theorem f_M_light_ok {g : xG} {l : Launch} {d : Nat} {v1 : Int32} {h : xH} {r : Int32} {h1 : xH} (hD : 8 ≤ d) (hf : f_M_light v1 h = some (r, h1)) : xC g l d 234 [xr 12 (some 0), xi v1] h (some (xi r)) h1 :=
  xC_of2 (by decide) mx234 (Nat.le_of_ble_eq_true rfl) (f_M_light_e_ok hD hf (fun _ _ e => by cases e; exact ⟨rfl, rfl⟩))
theorem d235_0 : decode (xcode 235) 0 = .ok (.iconst (-1), 1) := by decide +kernel
theorem d235_1 : decode (xcode 235) 1 = .ok (.istore_n 2, 1) := by decide +kernel
theorem d235_2 : decode (xcode 235) 2 = .ok (.iconst 0, 1) := by decide +kernel
theorem d235_3 : decode (xcode 235) 3 = .ok (.istore_n 3, 1) := by decide +kernel
theorem d235_4 : decode (xcode 235) 4 = .ok (.iload_n 3, 1) := by decide +kernel
theorem d235_5 : decode (xcode 235) 5 = .ok (.aload_n 0, 1) := by decide +kernel
theorem d235_6 : decode (xcode 235) 6 = .ok (.getfield 39, 3) := by decide +kernel
theorem d235_9 : decode (xcode 235) 9 = .ok (.iconst 3, 1) := by decide +kernel
theorem d235_10 : decode (xcode 235) 10 = .ok (.iaload, 1) := by decide +kernel
theorem d235_11 : decode (xcode 235) 11 = .ok (.if_icmp .ge 86, 3) := by decide +kernel
theorem d235_14 : decode (xcode 235) 14 = .ok (.iload_n 1, 1) := by decide +kernel
theorem d235_15 : decode (xcode 235) 15 = .ok (.iload_n 3, 1) := by decide +kernel
theorem d235_16 : decode (xcode 235) 16 = .ok (.invokestatic 301, 3) := by decide +kernel
theorem d235_19 : decode (xcode 235) 19 = .ok (.ifCond .eq 72, 3) := by decide +kernel
theorem d235_22 : decode (xcode 235) 22 = .ok (.aload_n 0, 1) := by decide +kernel
theorem d235_23 : decode (xcode 235) 23 = .ok (.getfield 39, 3) := by decide +kernel
theorem d235_26 : decode (xcode 235) 26 = .ok (.bipush 36, 2) := by decide +kernel
theorem d235_28 : decode (xcode 235) 28 = .ok (.iload_n 3, 1) := by decide +kernel
theorem d235_29 : decode (xcode 235) 29 = .ok (.iadd, 1) := by decide +kernel
theorem d235_30 : decode (xcode 235) 30 = .ok (.iaload, 1) := by decide +kernel
theorem d235_31 : decode (xcode 235) 31 = .ok (.iload_n 1, 1) := by decide +kernel
theorem d235_32 : decode (xcode 235) 32 = .ok (.iand, 1) := by decide +kernel
theorem d235_33 : decode (xcode 235) 33 = .ok (.ifCond .eq 6, 3) := by decide +kernel
theorem d235_36 : decode (xcode 235) 36 = .ok (.goto 55, 3) := by decide +kernel
theorem d235_39 : decode (xcode 235) 39 = .ok (.aload_n 0, 1) := by decide +kernel
theorem d235_40 : decode (xcode 235) 40 = .ok (.getfield 39, 3) := by decide +kernel
theorem d235_43 : decode (xcode 235) 43 = .ok (.bipush 52, 2) := by decide +kernel
theorem d235_45 : decode (xcode 235) 45 = .ok (.iload_n 3, 1) := by decide +kernel
theorem d235_46 : decode (xcode 235) 46 = .ok (.iadd, 1) := by decide +kernel
theorem d235_47 : decode (xcode 235) 47 = .ok (.iaload, 1) := by decide +kernel
theorem d235_48 : decode (xcode 235) 48 = .ok (.aload_n 0, 1) := by decide +kernel
theorem d235_49 : decode (xcode 235) 49 = .ok (.getfield 64, 3) := by decide +kernel
theorem d235_52 : decode (xcode 235) 52 = .ok (.iload_n 1, 1) := by decide +kernel
theorem d235_53 : decode (xcode 235) 53 = .ok (.iconst 1, 1) := by decide +kernel
theorem d235_54 : decode (xcode 235) 54 = .ok (.iload_n 3, 1) := by decide +kernel
theorem d235_55 : decode (xcode 235) 55 = .ok (.ishl, 1) := by decide +kernel
theorem d235_56 : decode (xcode 235) 56 = .ok (.iconst (-1), 1) := by decide +kernel
theorem d235_57 : decode (xcode 235) 57 = .ok (.ixor, 1) := by decide +kernel
theorem d235_58 : decode (xcode 235) 58 = .ok (.iand, 1) := by decide +kernel
theorem d235_59 : decode (xcode 235) 59 = .ok (.iaload, 1) := by decide +kernel
theorem d235_60 : decode (xcode 235) 60 = .ok (.isub, 1) := by decide +kernel
theorem d235_61 : decode (xcode 235) 61 = .ok (.istore 4, 2) := by decide +kernel
theorem d235_63 : decode (xcode 235) 63 = .ok (.iload_n 2, 1) := by decide +kernel
theorem d235_64 : decode (xcode 235) 64 = .ok (.ifCond .lt 17, 3) := by decide +kernel
theorem d235_67 : decode (xcode 235) 67 = .ok (.iload 4, 2) := by decide +kernel
theorem d235_69 : decode (xcode 235) 69 = .ok (.aload_n 0, 1) := by decide +kernel
theorem d235_70 : decode (xcode 235) 70 = .ok (.getfield 64, 3) := by decide +kernel
theorem d235_73 : decode (xcode 235) 73 = .ok (.iload_n 1, 1) := by decide +kernel
theorem d235_74 : decode (xcode 235) 74 = .ok (.iaload, 1) := by decide +kernel
theorem d235_75 : decode (xcode 235) 75 = .ok (.if_icmp .gt 6, 3) := by decide +kernel
theorem d235_78 : decode (xcode 235) 78 = .ok (.goto 13, 3) := by decide +kernel
theorem d235_81 : decode (xcode 235) 81 = .ok (.iload_n 3, 1) := by decide +kernel
theorem d235_82 : decode (xcode 235) 82 = .ok (.istore_n 2, 1) := by decide +kernel
theorem d235_83 : decode (xcode 235) 83 = .ok (.aload_n 0, 1) := by decide +kernel
theorem d235_84 : decode (xcode 235) 84 = .ok (.getfield 64, 3) := by decide +kernel
theorem d235_87 : decode (xcode 235) 87 = .ok (.iload_n 1, 1) := by decide +kernel
theorem d235_88 : decode (xcode 235) 88 = .ok (.iload 4, 2) := by decide +kernel
theorem d235_90 : decode (xcode 235) 90 = .ok (.iastore, 1) := by decide +kernel
theorem d235_91 : decode (xcode 235) 91 = .ok (.iinc 3 1, 3) := by decide +kernel
theorem d235_94 : decode (xcode 235) 94 = .ok (.goto (-90), 3) := by decide +kernel
theorem d235_97 : decode (xcode 235) 97 = .ok (.iload_n 2, 1) := by decide +kernel
theorem d235_98 : decode (xcode 235) 98 = .ok (.ireturn, 1) := by decide +kernel
noncomputable def f_M_bestOf_b91 (v1 : Int32) (v2 : Int32) (v3 : Int32) (h : xH) : Option ((Int32 × Int32 × xH) ⊕ (Int32 × xH)) :=
  xlet (v3 + (1 : Int32)) fun v3_5 =>
  some (Sum.inl (v2, v3_5, h))
set_option maxHeartbeats 4000000 in
set_option maxRecDepth 100000 in
theorem f_M_bestOf_b91_ok {g : xG} {l : Launch} {d : Nat} {v1 : Int32} {v2 : Int32} {v3 : Int32} {h : xH} {o : ((Int32 × Int32 × xH) ⊕ (Int32 × xH))} {R : Option xV} {H' : xH} (hD : 1 ≤ d) (hf : f_M_bestOf_b91 v1 v2 v3 h = some o) (K1 : ∀ (w2 : Int32) (w3 : Int32) (h1 : xH), o = Sum.inl (w2, w3, h1) → xEv g l d 235 4 [(0, xr 12 (some 0)), (1, xi v1), (2, xi w2), (3, xi w3)] [] h1 R H') (K0 : ∀ (a : Int32) (h1 : xH), o = Sum.inr ((a, h1)) → R = some (xi a) ∧ H' = h1) : xEv g l d 235 91 [(0, xr 12 (some 0)), (1, xi v1), (2, xi v2), (3, xi v3)] [] h R H' := by
  unfold f_M_bestOf_b91 at hf
  obtain ⟨v3_5, ev3_5, hf⟩ := lk_let hf
  refine xe_iinc (v := v3_5) (b := 1) (ls2 := [(0, xr 12 (some 0)), (1, xi v1), (2, xi v2), (3, xi v3_5)]) d235_91 mx235 (by decide) rfl (by decide) ev3_5 rfl ?_
  refine xs_goto (tgt := 4) d235_94 (by decide) ?_
  exact K1 _ _ _ (Option.some.inj hf).symm
noncomputable def f_M_bestOf_b81 (v1 : Int32) (v3 : Int32) (v4 : Int32) (h : xH) : Option ((Int32 × Int32 × xH) ⊕ (Int32 × xH)) :=
  if xib v1 256 then (
  xlet (xsA h 63 0 (upd (h.2.2.2.1 63 0) (v1).toNatClampNeg v4)) fun h13 =>
  f_M_bestOf_b91 v1 v3 v3 h13) else none
set_option maxHeartbeats 4000000 in
set_option maxRecDepth 100000 in
theorem f_M_bestOf_b81_ok {g : xG} {l : Launch} {d : Nat} {v1 : Int32} {v3 : Int32} {v4 : Int32} {h : xH} {o : ((Int32 × Int32 × xH) ⊕ (Int32 × xH))} {R : Option xV} {H' : xH} (hD : 1 ≤ d) (hf : f_M_bestOf_b81 v1 v3 v4 h = some o) (K1 : ∀ (w2 : Int32) (w3 : Int32) (h1 : xH), o = Sum.inl (w2, w3, h1) → xEv g l d 235 4 [(0, xr 12 (some 0)), (1, xi v1), (2, xi w2), (3, xi w3)] [] h1 R H') (K0 : ∀ (a : Int32) (h1 : xH), o = Sum.inr ((a, h1)) → R = some (xi a) ∧ H' = h1) : xEv g l d 235 81 [(0, xr 12 (some 0)), (1, xi v1), (3, xi v3), (4, xi v4)] [] h R H' := by
  unfold f_M_bestOf_b81 at hf
  refine xs_iload_n d235_81 rfl ?_
  refine xe_istore_n (v := v3) (ls2 := [(0, xr 12 (some 0)), (1, xi v1), (2, xi v3), (3, xi v3), (4, xi v4)]) d235_82 mx235 (by decide) rfl rfl ?_
  refine xs_aload_n d235_83 rfl ?_
  refine xe_getc (j := 0) d235_84 ky235 fl194 fk12_33 rfl ?_
  refine xs_iload_n d235_87 rfl ?_
  refine xs_iload d235_88 rfl ?_
  obtain ⟨hin12, hf⟩ := lk_g hf
  obtain ⟨h13, eh13, hf⟩ := lk_let hf
  refine xe_iast d235_90 (by decide) ak63 hin12  eh13 ?_
  refine xs_pick [0, 1, 2, 3] rfl ?_
  exact f_M_bestOf_b91_ok hD hf K1 K0
noncomputable def f_M_bestOf_s4 (v1 : Int32) (v2 : Int32) (v3 : Int32) (h : xH) : Option ((Int32 × Int32 × xH) ⊕ (Int32 × xH)) :=
  if (h.2.2.2.1 56 0 ((3 : Int32)).toNatClampNeg) ≤ v3 then (
  some (Sum.inr ((v2, h)))) else (
  (f_M_isOf v1 v3 h).bind fun r2 =>
  if r2 = (0 : Int32) then (
  f_M_bestOf_b91 v1 v2 v3 h) else (
  if xib ((36 : Int32) + v3) 101 then (
  if ((h.2.2.2.1 56 0 ((36 : Int32) + v3).toNatClampNeg) &&& v1) = (0 : Int32) then (
  if xib ((52 : Int32) + v3) 101 then (
  if xib (v1 &&& (((1 : Int32) <<< (v3 &&& 31)) ^^^ (-1 : Int32))) 256 then (
  xlet ((h.2.2.2.1 56 0 ((52 : Int32) + v3).toNatClampNeg) - (h.2.2.2.1 63 0 (v1 &&& (((1 : Int32) <<< (v3 &&& 31)) ^^^ (-1 : Int32))).toNatClampNeg)) fun v4_10 =>
  if v2 < (0 : Int32) then (
  f_M_bestOf_b81 v1 v3 v4_10 h) else (
  if xib v1 256 then (
  if (h.2.2.2.1 63 0 (v1).toNatClampNeg) < v4_10 then (
  f_M_bestOf_b81 v1 v3 v4_10 h) else (
  f_M_bestOf_b91 v1 v2 v3 h)) else none)) else none) else none) else (
  f_M_bestOf_b91 v1 v2 v3 h)) else none))
set_option maxHeartbeats 4000000 in
set_option maxRecDepth 100000 in
theorem f_M_bestOf_s4_ok {g : xG} {l : Launch} {d : Nat} {v1 : Int32} {v2 : Int32} {v3 : Int32} {h : xH} {o : ((Int32 × Int32 × xH) ⊕ (Int32 × xH))} {R : Option xV} {H' : xH} (hD : 1 ≤ d) (hf : f_M_bestOf_s4 v1 v2 v3 h = some o) (K1 : ∀ (w2 : Int32) (w3 : Int32) (h1 : xH), o = Sum.inl (w2, w3, h1) → xEv g l d 235 4 [(0, xr 12 (some 0)), (1, xi v1), (2, xi w2), (3, xi w3)] [] h1 R H') (K0 : ∀ (a : Int32) (h1 : xH), o = Sum.inr ((a, h1)) → R = some (xi a) ∧ H' = h1) : xEv g l d 235 4 [(0, xr 12 (some 0)), (1, xi v1), (2, xi v2), (3, xi v3)] [] h R H' := by
  unfold f_M_bestOf_s4 at hf
  refine xs_iload_n d235_4 rfl ?_
  refine xs_aload_n d235_5 rfl ?_
  refine xe_getc (j := 0) d235_6 ky235 fl181 fk12_20 rfl ?_
  refine xs_iconst (v := 3) d235_9 (by decide) ?_
  refine xe_iald d235_10 (by decide) ak56 (show xib (3 : Int32) 101 by decide) ?_
  rcases lk_if hf with ⟨hc1, hf⟩ | ⟨hc1, hf⟩
  · refine xs_icmp_ge (tgt := 97) d235_11 (by decide) (fun _ => ?_) (fun hn => absurd hc1 hn)
    refine xs_iload_n d235_97 rfl ?_
    obtain ⟨eR, eH⟩ := K0 _ _ (Option.some.inj hf).symm
    subst eR; subst eH
    exact xs_iret d235_98 rt235
  · refine xs_icmp_ge (tgt := 97) d235_11 (by decide) (fun hp => absurd hp hc1) (fun _ => ?_)
    refine xs_iload_n d235_14 rfl ?_
    refine xs_iload_n d235_15 rfl ?_
    obtain ⟨r2, hc3, hf⟩ := lk_b hf
    refine xe_calls1 (as := [xi v1, xi v3]) (st := []) (h2 := h) (d2 := d - 1) d235_16 ky235 ml233 st140 rfl na140 (Nat.le_of_ble_eq_true rfl) (by omega) (f_M_isOf_ok (by omega) hc3) ?_
    rcases lk_if hf with ⟨hc4, hf⟩ | ⟨hc4, hf⟩
    · refine xs_if_eq (tgt := 91) d235_19 (by decide) (fun _ => ?_) (fun hn => absurd hc4 hn)
      exact f_M_bestOf_b91_ok hD hf K1 K0
    · refine xs_if_eq (tgt := 91) d235_19 (by decide) (fun hp => absurd hp hc4) (fun _ => ?_)
      refine xs_aload_n d235_22 rfl ?_
      refine xe_getc (j := 0) d235_23 ky235 fl181 fk12_20 rfl ?_
      refine xs_bipush (v := 36) d235_26 (by decide) ?_
      refine xs_iload_n d235_28 rfl ?_
      refine xs_iadd d235_29 ?_
      obtain ⟨hin6, hf⟩ := lk_g hf
      refine xe_iald d235_30 (by decide) ak56 hin6 ?_
      refine xs_iload_n d235_31 rfl ?_
      refine xs_iand d235_32 ?_
      rcases lk_if hf with ⟨hc7, hf⟩ | ⟨hc7, hf⟩
      · refine xs_if_eq (tgt := 39) d235_33 (by decide) (fun _ => ?_) (fun hn => absurd hc7 hn)
        refine xs_aload_n d235_39 rfl ?_
        refine xe_getc (j := 0) d235_40 ky235 fl181 fk12_20 rfl ?_
        refine xs_bipush (v := 52) d235_43 (by decide) ?_
        refine xs_iload_n d235_45 rfl ?_
        refine xs_iadd d235_46 ?_
        obtain ⟨hin8, hf⟩ := lk_g hf
        refine xe_iald d235_47 (by decide) ak56 hin8 ?_
        refine xs_aload_n d235_48 rfl ?_
        refine xe_getc (j := 0) d235_49 ky235 fl194 fk12_33 rfl ?_
        refine xs_iload_n d235_52 rfl ?_
        refine xs_iconst (v := 1) d235_53 (by decide) ?_
        refine xs_iload_n d235_54 rfl ?_
        refine xs_ishl d235_55 ?_
        refine xs_iconst (v := -1) d235_56 (by decide) ?_
        refine xs_ixor d235_57 ?_
        refine xs_iand d235_58 ?_
        obtain ⟨hin9, hf⟩ := lk_g hf
        refine xe_iald d235_59 (by decide) ak63 hin9 ?_
        refine xs_isub d235_60 ?_
        obtain ⟨v4_10, ev4_10, hf⟩ := lk_let hf
        refine xe_istore (v := v4_10) (ls2 := [(0, xr 12 (some 0)), (1, xi v1), (2, xi v2), (3, xi v3), (4, xi v4_10)]) d235_61 mx235 (by decide) ev4_10 rfl ?_
        refine xs_iload_n d235_63 rfl ?_
        rcases lk_if hf with ⟨hc11, hf⟩ | ⟨hc11, hf⟩
        · refine xs_if_lt (tgt := 81) d235_64 (by decide) (fun _ => ?_) (fun hn => absurd hc11 hn)
          refine xs_pick [0, 1, 3, 4] rfl ?_
          exact f_M_bestOf_b81_ok hD hf K1 K0
        · refine xs_if_lt (tgt := 81) d235_64 (by decide) (fun hp => absurd hp hc11) (fun _ => ?_)
          refine xs_iload d235_67 rfl ?_
          refine xs_aload_n d235_69 rfl ?_
          refine xe_getc (j := 0) d235_70 ky235 fl194 fk12_33 rfl ?_
          refine xs_iload_n d235_73 rfl ?_
          obtain ⟨hin14, hf⟩ := lk_g hf
          refine xe_iald d235_74 (by decide) ak63 hin14 ?_
          rcases lk_if hf with ⟨hc15, hf⟩ | ⟨hc15, hf⟩
          · refine xs_icmp_gt (tgt := 81) d235_75 (by decide) (fun _ => ?_) (fun hn => absurd hc15 hn)
            refine xs_pick [0, 1, 3, 4] rfl ?_
            exact f_M_bestOf_b81_ok hD hf K1 K0
          · refine xs_icmp_gt (tgt := 81) d235_75 (by decide) (fun hp => absurd hp hc15) (fun _ => ?_)
            refine xs_goto (tgt := 91) d235_78 (by decide) ?_
            refine xs_pick [0, 1, 2, 3] rfl ?_
            exact f_M_bestOf_b91_ok hD hf K1 K0
      · refine xs_if_eq (tgt := 39) d235_33 (by decide) (fun hp => absurd hp hc7) (fun _ => ?_)
        refine xs_goto (tgt := 91) d235_36 (by decide) ?_
        exact f_M_bestOf_b91_ok hD hf K1 K0
noncomputable def f_M_bestOf_l4 (v1 : Int32) (v2 : Int32) (v3 : Int32) (h : xH) : Option (Int32 × xH) :=
  whl (fun s => f_M_bestOf_s4 v1 s.1 s.2.1 s.2.2) (v2, v3, h)
theorem f_M_bestOf_l4_ok {g : xG} {l : Launch} {d : Nat} {v1 : Int32} {v2 : Int32} {v3 : Int32} {h : xH} {o : (Int32 × xH)} {R : Option xV} {H' : xH} (hD : 1 ≤ d) (hf : f_M_bestOf_l4 v1 v2 v3 h = some o) (K0 : ∀ (a : Int32) (h1 : xH), o = (a, h1) → R = some (xi a) ∧ H' = h1) : xEv g l d 235 4 [(0, xr 12 (some 0)), (1, xi v1), (2, xi v2), (3, xi v3)] [] h R H' := by
  obtain ⟨n, hn⟩ := whl_iff.mp hf
  clear hf
  induction n generalizing v2 v3 h with
  | zero => cases hn
  | succ n ih =>
    obtain ⟨o2, hs, hn⟩ := lk_b (show (f_M_bestOf_s4 v1 v2 v3 h).bind (fun o => Sum.elim (itn _ n) some o) = some o from hn)
    exact f_M_bestOf_s4_ok hD hs (fun u0 u1 u2 e => ih (by rw [e] at hn; exact hn)) (fun u0 u1 e => K0 u0 u1 (by rw [e] at hn; exact (Option.some.inj hn).symm))
noncomputable def f_M_bestOf_e (v1 : Int32) (h : xH) : Option (Int32 × xH) :=
  f_M_bestOf_l4 v1 (-1 : Int32) (0 : Int32) h
set_option maxHeartbeats 4000000 in
set_option maxRecDepth 100000 in
theorem f_M_bestOf_e_ok {g : xG} {l : Launch} {d : Nat} {v1 : Int32} {h : xH} {o : (Int32 × xH)} {R : Option xV} {H' : xH} (hD : 1 ≤ d) (hf : f_M_bestOf_e v1 h = some o) (K0 : ∀ (a : Int32) (h1 : xH), o = (a, h1) → R = some (xi a) ∧ H' = h1) : xEv g l d 235 0 [(0, xr 12 (some 0)), (1, xi v1)] [] h R H' := by
  unfold f_M_bestOf_e at hf
  refine xs_iconst (v := -1) d235_0 (by decide) ?_
  refine xe_istore_n (v := (-1 : Int32)) (ls2 := [(0, xr 12 (some 0)), (1, xi v1), (2, xi (-1 : Int32))]) d235_1 mx235 (by decide) rfl rfl ?_
  refine xs_iconst (v := 0) d235_2 (by decide) ?_
  refine xe_istore_n (v := (0 : Int32)) (ls2 := [(0, xr 12 (some 0)), (1, xi v1), (2, xi (-1 : Int32)), (3, xi (0 : Int32))]) d235_3 mx235 (by decide) rfl rfl ?_
  exact f_M_bestOf_l4_ok hD hf K0
noncomputable def f_M_bestOf (v1 : Int32) (h : xH) : Option (Int32 × xH) := f_M_bestOf_e v1 h
theorem f_M_bestOf_ok {g : xG} {l : Launch} {d : Nat} {v1 : Int32} {h : xH} {r : Int32} {h1 : xH} (hD : 1 ≤ d) (hf : f_M_bestOf v1 h = some (r, h1)) : xC g l d 235 [xr 12 (some 0), xi v1] h (some (xi r)) h1 :=
  xC_of2 (by decide) mx235 (Nat.le_of_ble_eq_true rfl) (f_M_bestOf_e_ok hD hf (fun _ _ e => by cases e; exact ⟨rfl, rfl⟩))
theorem d236_0 : decode (xcode 236) 0 = .ok (.aload_n 0, 1) := by decide +kernel
theorem d236_1 : decode (xcode 236) 1 = .ok (.invokevirtual 349, 3) := by decide +kernel
theorem d236_4 : decode (xcode 236) 4 = .ok (.ifCond .eq 13, 3) := by decide +kernel
theorem d236_7 : decode (xcode 236) 7 = .ok (.iload_n 1, 1) := by decide +kernel
theorem d236_8 : decode (xcode 236) 8 = .ok (.i2l, 1) := by decide +kernel
theorem d236_9 : decode (xcode 236) 9 = .ok (.lconst 0, 1) := by decide +kernel
theorem d236_10 : decode (xcode 236) 10 = .ok (.lconst 1, 1) := by decide +kernel
theorem d236_11 : decode (xcode 236) 11 = .ok (.invokestatic 124, 3) := by decide +kernel
theorem d236_14 : decode (xcode 236) 14 = .ok (.ifCond .ne 7, 3) := by decide +kernel
theorem d236_17 : decode (xcode 236) 17 = .ok (.sipush (-1000), 3) := by decide +kernel
theorem d236_20 : decode (xcode 236) 20 = .ok (.ireturn, 1) := by decide +kernel
theorem d236_21 : decode (xcode 236) 21 = .ok (.aload_n 0, 1) := by decide +kernel
theorem d236_22 : decode (xcode 236) 22 = .ok (.invokevirtual 295, 3) := by decide +kernel
theorem d236_25 : decode (xcode 236) 25 = .ok (.istore_n 2, 1) := by decide +kernel
theorem d236_26 : decode (xcode 236) 26 = .ok (.iconst (-1), 1) := by decide +kernel
theorem d236_27 : decode (xcode 236) 27 = .ok (.istore_n 3, 1) := by decide +kernel
theorem d236_28 : decode (xcode 236) 28 = .ok (.iconst 0, 1) := by decide +kernel
theorem d236_29 : decode (xcode 236) 29 = .ok (.istore 4, 2) := by decide +kernel
theorem d236_31 : decode (xcode 236) 31 = .ok (.iload 4, 2) := by decide +kernel
theorem d236_33 : decode (xcode 236) 33 = .ok (.iload_n 2, 1) := by decide +kernel
theorem d236_34 : decode (xcode 236) 34 = .ok (.if_icmp .gt 36, 3) := by decide +kernel
theorem d236_37 : decode (xcode 236) 37 = .ok (.iload 4, 2) := by decide +kernel
theorem d236_39 : decode (xcode 236) 39 = .ok (.iload_n 2, 1) := by decide +kernel
theorem d236_40 : decode (xcode 236) 40 = .ok (.iconst (-1), 1) := by decide +kernel
theorem d236_41 : decode (xcode 236) 41 = .ok (.ixor, 1) := by decide +kernel
theorem d236_42 : decode (xcode 236) 42 = .ok (.iand, 1) := by decide +kernel
theorem d236_43 : decode (xcode 236) 43 = .ok (.ifCond .eq 6, 3) := by decide +kernel
theorem d236_46 : decode (xcode 236) 46 = .ok (.goto 18, 3) := by decide +kernel
theorem d236_49 : decode (xcode 236) 49 = .ok (.aload_n 0, 1) := by decide +kernel
theorem d236_50 : decode (xcode 236) 50 = .ok (.getfield 64, 3) := by decide +kernel
theorem d236_53 : decode (xcode 236) 53 = .ok (.iload 4, 2) := by decide +kernel
theorem d236_55 : decode (xcode 236) 55 = .ok (.iconst 0, 1) := by decide +kernel
theorem d236_56 : decode (xcode 236) 56 = .ok (.iastore, 1) := by decide +kernel
theorem d236_57 : decode (xcode 236) 57 = .ok (.aload_n 0, 1) := by decide +kernel
theorem d236_58 : decode (xcode 236) 58 = .ok (.iload 4, 2) := by decide +kernel
theorem d236_60 : decode (xcode 236) 60 = .ok (.invokevirtual 421, 3) := by decide +kernel
theorem d236_63 : decode (xcode 236) 63 = .ok (.istore_n 3, 1) := by decide +kernel
theorem d236_64 : decode (xcode 236) 64 = .ok (.iinc 4 1, 3) := by decide +kernel
theorem d236_67 : decode (xcode 236) 67 = .ok (.goto (-36), 3) := by decide +kernel
theorem d236_70 : decode (xcode 236) 70 = .ok (.iload_n 1, 1) := by decide +kernel
theorem d236_71 : decode (xcode 236) 71 = .ok (.ifCond .ne 12, 3) := by decide +kernel
theorem d236_74 : decode (xcode 236) 74 = .ok (.aload_n 0, 1) := by decide +kernel
theorem d236_75 : decode (xcode 236) 75 = .ok (.getfield 64, 3) := by decide +kernel
theorem d236_78 : decode (xcode 236) 78 = .ok (.iload_n 2, 1) := by decide +kernel
theorem d236_79 : decode (xcode 236) 79 = .ok (.iaload, 1) := by decide +kernel
theorem d236_80 : decode (xcode 236) 80 = .ok (.goto 4, 3) := by decide +kernel
theorem d236_83 : decode (xcode 236) 83 = .ok (.iload_n 3, 1) := by decide +kernel
theorem d236_84 : decode (xcode 236) 84 = .ok (.ireturn, 1) := by decide +kernel
noncomputable def f_M_game_b70 (v1 : Int32) (v2 : Int32) (v3 : Int32) (h : xH) : Option (Int32 × xH) :=
  if v1 = (0 : Int32) then (
  if xib v2 256 then (
  some ((h.2.2.2.1 63 0 (v2).toNatClampNeg, h))) else none) else (
  some ((v3, h)))
set_option maxHeartbeats 4000000 in
set_option maxRecDepth 100000 in
theorem f_M_game_b70_ok {g : xG} {l : Launch} {d : Nat} {v1 : Int32} {v2 : Int32} {v3 : Int32} {h : xH} {o : (Int32 × xH)} {R : Option xV} {H' : xH} (hD : 3 ≤ d) (hf : f_M_game_b70 v1 v2 v3 h = some o) (K0 : ∀ (a : Int32) (h1 : xH), o = (a, h1) → R = some (xi a) ∧ H' = h1) : xEv g l d 236 70 [(0, xr 12 (some 0)), (1, xi v1), (2, xi v2), (3, xi v3)] [] h R H' := by
  unfold f_M_game_b70 at hf
  refine xs_iload_n d236_70 rfl ?_
  rcases lk_if hf with ⟨hc10, hf⟩ | ⟨hc10, hf⟩
  · refine xs_if_ne (tgt := 83) d236_71 (by decide) (fun _ => ?_) (fun hn => absurd hc10 hn)
    refine xs_aload_n d236_74 rfl ?_
    refine xe_getc (j := 0) d236_75 ky236 fl194 fk12_33 rfl ?_
    refine xs_iload_n d236_78 rfl ?_
    obtain ⟨hin11, hf⟩ := lk_g hf
    refine xe_iald d236_79 (by decide) ak63 hin11 ?_
    refine xs_goto (tgt := 84) d236_80 (by decide) ?_
    obtain ⟨eR, eH⟩ := K0 _ _ (Option.some.inj hf).symm
    subst eR; subst eH
    exact xs_iret d236_84 rt236
  · refine xs_if_ne (tgt := 83) d236_71 (by decide) (fun hp => absurd hp hc10) (fun _ => ?_)
    refine xs_iload_n d236_83 rfl ?_
    obtain ⟨eR, eH⟩ := K0 _ _ (Option.some.inj hf).symm
    subst eR; subst eH
    exact xs_iret d236_84 rt236
noncomputable def f_M_game_b64 (v1 : Int32) (v2 : Int32) (v3 : Int32) (v4 : Int32) (h : xH) : Option ((Int32 × Int32 × xH) ⊕ (Int32 × xH)) :=
  xlet (v4 + (1 : Int32)) fun v4_18 =>
  some (Sum.inl (v3, v4_18, h))
set_option maxHeartbeats 4000000 in
set_option maxRecDepth 100000 in
theorem f_M_game_b64_ok {g : xG} {l : Launch} {d : Nat} {v1 : Int32} {v2 : Int32} {v3 : Int32} {v4 : Int32} {h : xH} {o : ((Int32 × Int32 × xH) ⊕ (Int32 × xH))} {R : Option xV} {H' : xH} (hD : 3 ≤ d) (hf : f_M_game_b64 v1 v2 v3 v4 h = some o) (K1 : ∀ (w3 : Int32) (w4 : Int32) (h1 : xH), o = Sum.inl (w3, w4, h1) → xEv g l d 236 31 [(0, xr 12 (some 0)), (1, xi v1), (2, xi v2), (3, xi w3), (4, xi w4)] [] h1 R H') (K0 : ∀ (a : Int32) (h1 : xH), o = Sum.inr ((a, h1)) → R = some (xi a) ∧ H' = h1) : xEv g l d 236 64 [(0, xr 12 (some 0)), (1, xi v1), (2, xi v2), (3, xi v3), (4, xi v4)] [] h R H' := by
  unfold f_M_game_b64 at hf
  obtain ⟨v4_18, ev4_18, hf⟩ := lk_let hf
  refine xe_iinc (v := v4_18) (b := 1) (ls2 := [(0, xr 12 (some 0)), (1, xi v1), (2, xi v2), (3, xi v3), (4, xi v4_18)]) d236_64 mx236 (by decide) rfl (by decide) ev4_18 rfl ?_
  refine xs_goto (tgt := 31) d236_67 (by decide) ?_
  exact K1 _ _ _ (Option.some.inj hf).symm
noncomputable def f_M_game_s31 (v1 : Int32) (v2 : Int32) (v3 : Int32) (v4 : Int32) (h : xH) : Option ((Int32 × Int32 × xH) ⊕ (Int32 × xH)) :=
  if v2 < v4 then (
  xup (f_M_game_b70 v1 v2 v3 h)) else (
  if (v4 &&& (v2 ^^^ (-1 : Int32))) = (0 : Int32) then (
  if xib v4 256 then (
  xlet (xsA h 63 0 (upd (h.2.2.2.1 63 0) (v4).toNatClampNeg (0 : Int32))) fun h14 =>
  (f_M_bestOf v4 h14).bind fun q17 =>
  f_M_game_b64 v1 v2 q17.1 v4 q17.2) else none) else (
  f_M_game_b64 v1 v2 v3 v4 h))
set_option maxHeartbeats 4000000 in
set_option maxRecDepth 100000 in
theorem f_M_game_s31_ok {g : xG} {l : Launch} {d : Nat} {v1 : Int32} {v2 : Int32} {v3 : Int32} {v4 : Int32} {h : xH} {o : ((Int32 × Int32 × xH) ⊕ (Int32 × xH))} {R : Option xV} {H' : xH} (hD : 3 ≤ d) (hf : f_M_game_s31 v1 v2 v3 v4 h = some o) (K1 : ∀ (w3 : Int32) (w4 : Int32) (h1 : xH), o = Sum.inl (w3, w4, h1) → xEv g l d 236 31 [(0, xr 12 (some 0)), (1, xi v1), (2, xi v2), (3, xi w3), (4, xi w4)] [] h1 R H') (K0 : ∀ (a : Int32) (h1 : xH), o = Sum.inr ((a, h1)) → R = some (xi a) ∧ H' = h1) : xEv g l d 236 31 [(0, xr 12 (some 0)), (1, xi v1), (2, xi v2), (3, xi v3), (4, xi v4)] [] h R H' := by
  unfold f_M_game_s31 at hf
  refine xs_iload d236_31 rfl ?_
  refine xs_iload_n d236_33 rfl ?_
  rcases lk_if hf with ⟨hc9, hf⟩ | ⟨hc9, hf⟩
  · refine xs_icmp_gt (tgt := 70) d236_34 (by decide) (fun _ => ?_) (fun hn => absurd hc9 hn)
    refine xs_pick [0, 1, 2, 3] rfl ?_
    obtain ⟨x0, hf, ex0⟩ := lk_up hf
    exact f_M_game_b70_ok hD hf (fun u0 u1 e => K0 u0 u1 (ex0.trans (congrArg Sum.inr e)))
  · refine xs_icmp_gt (tgt := 70) d236_34 (by decide) (fun hp => absurd hp hc9) (fun _ => ?_)
    refine xs_iload d236_37 rfl ?_
    refine xs_iload_n d236_39 rfl ?_
    refine xs_iconst (v := -1) d236_40 (by decide) ?_
    refine xs_ixor d236_41 ?_
    refine xs_iand d236_42 ?_
    rcases lk_if hf with ⟨hc12, hf⟩ | ⟨hc12, hf⟩
    · refine xs_if_eq (tgt := 49) d236_43 (by decide) (fun _ => ?_) (fun hn => absurd hc12 hn)
      refine xs_aload_n d236_49 rfl ?_
      refine xe_getc (j := 0) d236_50 ky236 fl194 fk12_33 rfl ?_
      refine xs_iload d236_53 rfl ?_
      refine xs_iconst (v := 0) d236_55 (by decide) ?_
      obtain ⟨hin13, hf⟩ := lk_g hf
      obtain ⟨h14, eh14, hf⟩ := lk_let hf
      refine xe_iast d236_56 (by decide) ak63 hin13  eh14 ?_
      refine xs_aload_n d236_57 rfl ?_
      refine xs_iload d236_58 rfl ?_
      obtain ⟨q17, hc16, hf⟩ := lk_b hf
      refine xe_callv1 (as := [xi v4]) (st := []) (h2 := q17.2) (d2 := d - 1) d236_60 ky236 ml276 st235 (by decide) cn235 rfl na235 (Nat.le_of_ble_eq_true rfl) (by omega) (f_M_bestOf_ok (by omega) hc16) ?_
      refine xe_istore_n (v := q17.1) (ls2 := [(0, xr 12 (some 0)), (1, xi v1), (2, xi v2), (3, xi q17.1), (4, xi v4)]) d236_63 mx236 (by decide) rfl rfl ?_
      exact f_M_game_b64_ok hD hf K1 K0
    · refine xs_if_eq (tgt := 49) d236_43 (by decide) (fun hp => absurd hp hc12) (fun _ => ?_)
      refine xs_goto (tgt := 64) d236_46 (by decide) ?_
      exact f_M_game_b64_ok hD hf K1 K0
noncomputable def f_M_game_l31 (v1 : Int32) (v2 : Int32) (v3 : Int32) (v4 : Int32) (h : xH) : Option (Int32 × xH) :=
  whl (fun s => f_M_game_s31 v1 v2 s.1 s.2.1 s.2.2) (v3, v4, h)
theorem f_M_game_l31_ok {g : xG} {l : Launch} {d : Nat} {v1 : Int32} {v2 : Int32} {v3 : Int32} {v4 : Int32} {h : xH} {o : (Int32 × xH)} {R : Option xV} {H' : xH} (hD : 3 ≤ d) (hf : f_M_game_l31 v1 v2 v3 v4 h = some o) (K0 : ∀ (a : Int32) (h1 : xH), o = (a, h1) → R = some (xi a) ∧ H' = h1) : xEv g l d 236 31 [(0, xr 12 (some 0)), (1, xi v1), (2, xi v2), (3, xi v3), (4, xi v4)] [] h R H' := by
  obtain ⟨n, hn⟩ := whl_iff.mp hf
  clear hf
  induction n generalizing v3 v4 h with
  | zero => cases hn
  | succ n ih =>
    obtain ⟨o2, hs, hn⟩ := lk_b (show (f_M_game_s31 v1 v2 v3 v4 h).bind (fun o => Sum.elim (itn _ n) some o) = some o from hn)
    exact f_M_game_s31_ok hD hs (fun u0 u1 u2 e => ih (by rw [e] at hn; exact hn)) (fun u0 u1 e => K0 u0 u1 (by rw [e] at hn; exact (Option.some.inj hn).symm))
noncomputable def f_M_game_e (v1 : Int32) (h : xH) : Option (Int32 × xH) :=
  (f_M_isTrug h).bind fun r1 =>
  if r1 = (0 : Int32) then (
  some (((-1000 : Int32), h))) else (
  (f_M_in ((v1).toInt64) (0 : Int64) (1 : Int64) h).bind fun r4 =>
  if r4 = (0 : Int32) then (
  some (((-1000 : Int32), h))) else (
  (f_M_inside h).bind fun r7 =>
  f_M_game_l31 v1 r7 (-1 : Int32) (0 : Int32) h))
set_option maxHeartbeats 4000000 in
set_option maxRecDepth 100000 in
theorem f_M_game_e_ok {g : xG} {l : Launch} {d : Nat} {v1 : Int32} {h : xH} {o : (Int32 × xH)} {R : Option xV} {H' : xH} (hD : 3 ≤ d) (hf : f_M_game_e v1 h = some o) (K0 : ∀ (a : Int32) (h1 : xH), o = (a, h1) → R = some (xi a) ∧ H' = h1) : xEv g l d 236 0 [(0, xr 12 (some 0)), (1, xi v1)] [] h R H' := by
  unfold f_M_game_e at hf
  refine xs_aload_n d236_0 rfl ?_
  obtain ⟨r1, hc2, hf⟩ := lk_b hf
  refine xe_callv1 (as := []) (st := []) (h2 := h) (d2 := d - 1) d236_1 ky236 ml225 st184 (by decide) cn184 rfl na184 (Nat.le_of_ble_eq_true rfl) (by omega) (f_M_isTrug_ok (by omega) hc2) ?_
  rcases lk_if hf with ⟨hc3, hf⟩ | ⟨hc3, hf⟩
  · refine xs_if_eq (tgt := 17) d236_4 (by decide) (fun _ => ?_) (fun hn => absurd hc3 hn)
    refine xs_sipush (v := -1000) d236_17 (by decide) ?_
    obtain ⟨eR, eH⟩ := K0 _ _ (Option.some.inj hf).symm
    subst eR; subst eH
    exact xs_iret d236_20 rt236
  · refine xs_if_eq (tgt := 17) d236_4 (by decide) (fun hp => absurd hp hc3) (fun _ => ?_)
    refine xs_iload_n d236_7 rfl ?_
    refine xs_i2l d236_8 ?_
    refine xs_lconst (v := 0) d236_9 (by decide) ?_
    refine xs_lconst (v := 1) d236_10 (by decide) ?_
    obtain ⟨r4, hc5, hf⟩ := lk_b hf
    refine xe_calls1 (as := [xl ((v1).toInt64), xl (0 : Int64), xl (1 : Int64)]) (st := []) (h2 := h) (d2 := d - 1) d236_11 ky236 ml196 st139 rfl na139 (Nat.le_of_ble_eq_true rfl) (by omega) (f_M_in_ok (by omega) hc5) ?_
    rcases lk_if hf with ⟨hc6, hf⟩ | ⟨hc6, hf⟩
    · refine xs_if_ne (tgt := 21) d236_14 (by decide) (fun _ => ?_) (fun hn => absurd hc6 hn)
      refine xs_sipush (v := -1000) d236_17 (by decide) ?_
      obtain ⟨eR, eH⟩ := K0 _ _ (Option.some.inj hf).symm
      subst eR; subst eH
      exact xs_iret d236_20 rt236
    · refine xs_if_ne (tgt := 21) d236_14 (by decide) (fun hp => absurd hp hc6) (fun _ => ?_)
      refine xs_aload_n d236_21 rfl ?_
      obtain ⟨r7, hc8, hf⟩ := lk_b hf
      refine xe_callv1 (as := []) (st := []) (h2 := h) (d2 := d - 1) d236_22 ky236 ml231 st187 (by decide) cn187 rfl na187 (Nat.le_of_ble_eq_true rfl) (by omega) (f_M_inside_ok (by omega) hc8) ?_
      refine xe_istore_n (v := r7) (ls2 := [(0, xr 12 (some 0)), (1, xi v1), (2, xi r7)]) d236_25 mx236 (by decide) rfl rfl ?_
      refine xs_iconst (v := -1) d236_26 (by decide) ?_
      refine xe_istore_n (v := (-1 : Int32)) (ls2 := [(0, xr 12 (some 0)), (1, xi v1), (2, xi r7), (3, xi (-1 : Int32))]) d236_27 mx236 (by decide) rfl rfl ?_
      refine xs_iconst (v := 0) d236_28 (by decide) ?_
      refine xe_istore (v := (0 : Int32)) (ls2 := [(0, xr 12 (some 0)), (1, xi v1), (2, xi r7), (3, xi (-1 : Int32)), (4, xi (0 : Int32))]) d236_29 mx236 (by decide) rfl rfl ?_
      exact f_M_game_l31_ok hD hf K0
noncomputable def f_M_game (v1 : Int32) (h : xH) : Option (Int32 × xH) := f_M_game_e v1 h
theorem f_M_game_ok {g : xG} {l : Launch} {d : Nat} {v1 : Int32} {h : xH} {r : Int32} {h1 : xH} (hD : 3 ≤ d) (hf : f_M_game v1 h = some (r, h1)) : xC g l d 236 [xr 12 (some 0), xi v1] h (some (xi r)) h1 :=
  xC_of2 (by decide) mx236 (Nat.le_of_ble_eq_true rfl) (f_M_game_e_ok hD hf (fun _ _ e => by cases e; exact ⟨rfl, rfl⟩))
