theorem d190_0 : decode (xcode 190) 0 = .ok (.iconst 0, 1) := by decide +kernel
theorem d190_1 : decode (xcode 190) 1 = .ok (.istore_n 3, 1) := by decide +kernel
theorem d190_2 : decode (xcode 190) 2 = .ok (.iconst 0, 1) := by decide +kernel
theorem d190_3 : decode (xcode 190) 3 = .ok (.istore 4, 2) := by decide +kernel
theorem d190_5 : decode (xcode 190) 5 = .ok (.iload 4, 2) := by decide +kernel
theorem d190_7 : decode (xcode 190) 7 = .ok (.aload_n 0, 1) := by decide +kernel
theorem d190_8 : decode (xcode 190) 8 = .ok (.getfield 39, 3) := by decide +kernel
theorem d190_11 : decode (xcode 190) 11 = .ok (.iconst 3, 1) := by decide +kernel
theorem d190_12 : decode (xcode 190) 12 = .ok (.iaload, 1) := by decide +kernel
theorem d190_13 : decode (xcode 190) 13 = .ok (.if_icmp .ge 34, 3) := by decide +kernel
theorem d190_16 : decode (xcode 190) 16 = .ok (.iload_n 3, 1) := by decide +kernel
theorem d190_17 : decode (xcode 190) 17 = .ok (.iload_n 1, 1) := by decide +kernel
theorem d190_18 : decode (xcode 190) 18 = .ok (.iload 4, 2) := by decide +kernel
theorem d190_20 : decode (xcode 190) 20 = .ok (.invokestatic 301, 3) := by decide +kernel
theorem d190_23 : decode (xcode 190) 23 = .ok (.ifCond .eq 15, 3) := by decide +kernel
theorem d190_26 : decode (xcode 190) 26 = .ok (.aload_n 0, 1) := by decide +kernel
theorem d190_27 : decode (xcode 190) 27 = .ok (.getfield 39, 3) := by decide +kernel
theorem d190_30 : decode (xcode 190) 30 = .ok (.iload_n 2, 1) := by decide +kernel
theorem d190_31 : decode (xcode 190) 31 = .ok (.iload 4, 2) := by decide +kernel
theorem d190_33 : decode (xcode 190) 33 = .ok (.iadd, 1) := by decide +kernel
theorem d190_34 : decode (xcode 190) 34 = .ok (.iaload, 1) := by decide +kernel
theorem d190_35 : decode (xcode 190) 35 = .ok (.goto 4, 3) := by decide +kernel
theorem d190_38 : decode (xcode 190) 38 = .ok (.iconst 0, 1) := by decide +kernel
theorem d190_39 : decode (xcode 190) 39 = .ok (.iadd, 1) := by decide +kernel
theorem d190_40 : decode (xcode 190) 40 = .ok (.istore_n 3, 1) := by decide +kernel
theorem d190_41 : decode (xcode 190) 41 = .ok (.iinc 4 1, 3) := by decide +kernel
theorem d190_44 : decode (xcode 190) 44 = .ok (.goto (-39), 3) := by decide +kernel
theorem d190_47 : decode (xcode 190) 47 = .ok (.iload_n 3, 1) := by decide +kernel
theorem d190_48 : decode (xcode 190) 48 = .ok (.ireturn, 1) := by decide +kernel
noncomputable def f_M_sumOf_b39 (v1 : Int32) (v2 : Int32) (v4 : Int32) (t0 : Int32) (t1 : Int32) (h : xH) : Option ((Int32 × Int32) ⊕ Int32) :=
  xlet (t1 + t0) fun v3_5 =>
  xlet (v4 + (1 : Int32)) fun v4_6 =>
  some (Sum.inl (v3_5, v4_6))
set_option maxHeartbeats 4000000 in
set_option maxRecDepth 100000 in
theorem f_M_sumOf_b39_ok {g : xG} {l : Launch} {d : Nat} {v1 : Int32} {v2 : Int32} {v4 : Int32} {t0 : Int32} {t1 : Int32} {h : xH} {o : ((Int32 × Int32) ⊕ Int32)} {R : Option xV} (hD : 1 ≤ d) (hf : f_M_sumOf_b39 v1 v2 v4 t0 t1 h = some o) (K1 : ∀ (w3 : Int32) (w4 : Int32), o = Sum.inl (w3, w4) → xEv g l d 190 5 [(0, xr 12 (some 0)), (1, xi v1), (2, xi v2), (3, xi w3), (4, xi w4)] [] h R h) (K0 : ∀ (a : Int32), o = Sum.inr (a) → R = some (xi a)) : xEv g l d 190 39 [(0, xr 12 (some 0)), (1, xi v1), (2, xi v2), (4, xi v4)] [xi t0, xi t1] h R h := by
  unfold f_M_sumOf_b39 at hf
  refine xs_iadd d190_39 ?_
  obtain ⟨v3_5, ev3_5, hf⟩ := lk_let hf
  refine xe_istore_n (v := v3_5) (ls2 := [(0, xr 12 (some 0)), (1, xi v1), (2, xi v2), (3, xi v3_5), (4, xi v4)]) d190_40 mx190 (by decide) ev3_5 rfl ?_
  obtain ⟨v4_6, ev4_6, hf⟩ := lk_let hf
  refine xe_iinc (v := v4_6) (b := 1) (ls2 := [(0, xr 12 (some 0)), (1, xi v1), (2, xi v2), (3, xi v3_5), (4, xi v4_6)]) d190_41 mx190 (by decide) rfl (by decide) ev4_6 rfl ?_
  refine xs_goto (tgt := 5) d190_44 (by decide) ?_
  exact K1 _ _ (Option.some.inj hf).symm
noncomputable def f_M_sumOf_s5 (v1 : Int32) (v2 : Int32) (v3 : Int32) (v4 : Int32) (h : xH) : Option ((Int32 × Int32) ⊕ Int32) :=
  if (h.2.2.2.1 56 0 ((3 : Int32)).toNatClampNeg) ≤ v4 then (
  some (Sum.inr (v3))) else (
  (f_M_isOf v1 v4 h).bind fun r2 =>
  if r2 = (0 : Int32) then (
  f_M_sumOf_b39 v1 v2 v4 (0 : Int32) v3 h) else (
  if xib (v2 + v4) 101 then (
  f_M_sumOf_b39 v1 v2 v4 (h.2.2.2.1 56 0 (v2 + v4).toNatClampNeg) v3 h) else none))
set_option maxHeartbeats 4000000 in
set_option maxRecDepth 100000 in
theorem f_M_sumOf_s5_ok {g : xG} {l : Launch} {d : Nat} {v1 : Int32} {v2 : Int32} {v3 : Int32} {v4 : Int32} {h : xH} {o : ((Int32 × Int32) ⊕ Int32)} {R : Option xV} (hD : 1 ≤ d) (hf : f_M_sumOf_s5 v1 v2 v3 v4 h = some o) (K1 : ∀ (w3 : Int32) (w4 : Int32), o = Sum.inl (w3, w4) → xEv g l d 190 5 [(0, xr 12 (some 0)), (1, xi v1), (2, xi v2), (3, xi w3), (4, xi w4)] [] h R h) (K0 : ∀ (a : Int32), o = Sum.inr (a) → R = some (xi a)) : xEv g l d 190 5 [(0, xr 12 (some 0)), (1, xi v1), (2, xi v2), (3, xi v3), (4, xi v4)] [] h R h := by
  unfold f_M_sumOf_s5 at hf
  refine xs_iload d190_5 rfl ?_
  refine xs_aload_n d190_7 rfl ?_
  refine xe_getc (j := 0) d190_8 ky190 fl181 fk12_20 rfl ?_
  refine xs_iconst (v := 3) d190_11 (by decide) ?_
  refine xe_iald d190_12 (by decide) ak56 (show xib (3 : Int32) 101 by decide) ?_
  rcases lk_if hf with ⟨hc1, hf⟩ | ⟨hc1, hf⟩
  · refine xs_icmp_ge (tgt := 47) d190_13 (by decide) (fun _ => ?_) (fun hn => absurd hc1 hn)
    refine xs_iload_n d190_47 rfl ?_
    obtain eR := K0 _ (Option.some.inj hf).symm
    subst eR
    exact xs_iret d190_48 rt190
  · refine xs_icmp_ge (tgt := 47) d190_13 (by decide) (fun hp => absurd hp hc1) (fun _ => ?_)
    refine xs_iload_n d190_16 rfl ?_
    refine xs_iload_n d190_17 rfl ?_
    refine xs_iload d190_18 rfl ?_
    obtain ⟨r2, hc3, hf⟩ := lk_b hf
    refine xe_calls1 (as := [xi v1, xi v4]) (st := [xi v3]) (h2 := h) (d2 := d - 1) d190_20 ky190 ml233 st140 rfl na140 (Nat.le_of_ble_eq_true rfl) (by omega) (f_M_isOf_ok (by omega) hc3) ?_
    rcases lk_if hf with ⟨hc4, hf⟩ | ⟨hc4, hf⟩
    · refine xs_if_eq (tgt := 38) d190_23 (by decide) (fun _ => ?_) (fun hn => absurd hc4 hn)
      refine xs_iconst (v := 0) d190_38 (by decide) ?_
      refine xs_pick [0, 1, 2, 4] rfl ?_
      exact f_M_sumOf_b39_ok hD hf K1 K0
    · refine xs_if_eq (tgt := 38) d190_23 (by decide) (fun hp => absurd hp hc4) (fun _ => ?_)
      refine xs_aload_n d190_26 rfl ?_
      refine xe_getc (j := 0) d190_27 ky190 fl181 fk12_20 rfl ?_
      refine xs_iload_n d190_30 rfl ?_
      refine xs_iload d190_31 rfl ?_
      refine xs_iadd d190_33 ?_
      obtain ⟨hin7, hf⟩ := lk_g hf
      refine xe_iald d190_34 (by decide) ak56 hin7 ?_
      refine xs_goto (tgt := 39) d190_35 (by decide) ?_
      refine xs_pick [0, 1, 2, 4] rfl ?_
      exact f_M_sumOf_b39_ok hD hf K1 K0
noncomputable def f_M_sumOf_l5 (v1 : Int32) (v2 : Int32) (v3 : Int32) (v4 : Int32) (h : xH) : Option Int32 :=
  whl (fun s => f_M_sumOf_s5 v1 v2 s.1 s.2 h) (v3, v4)
theorem f_M_sumOf_l5_ok {g : xG} {l : Launch} {d : Nat} {v1 : Int32} {v2 : Int32} {v3 : Int32} {v4 : Int32} {h : xH} {o : Int32} {R : Option xV} (hD : 1 ≤ d) (hf : f_M_sumOf_l5 v1 v2 v3 v4 h = some o) (K0 : ∀ (a : Int32), o = a → R = some (xi a)) : xEv g l d 190 5 [(0, xr 12 (some 0)), (1, xi v1), (2, xi v2), (3, xi v3), (4, xi v4)] [] h R h := by
  obtain ⟨n, hn⟩ := whl_iff.mp hf
  clear hf
  induction n generalizing v3 v4 with
  | zero => cases hn
  | succ n ih =>
    obtain ⟨o2, hs, hn⟩ := lk_b (show (f_M_sumOf_s5 v1 v2 v3 v4 h).bind (fun o => Sum.elim (itn _ n) some o) = some o from hn)
    exact f_M_sumOf_s5_ok hD hs (fun u0 u1 e => ih (by rw [e] at hn; exact hn)) (fun u0 e => K0 u0 (by rw [e] at hn; exact (Option.some.inj hn).symm))
noncomputable def f_M_sumOf_e (v1 : Int32) (v2 : Int32) (h : xH) : Option Int32 :=
  f_M_sumOf_l5 v1 v2 (0 : Int32) (0 : Int32) h
set_option maxHeartbeats 4000000 in
set_option maxRecDepth 100000 in
theorem f_M_sumOf_e_ok {g : xG} {l : Launch} {d : Nat} {v1 : Int32} {v2 : Int32} {h : xH} {o : Int32} {R : Option xV} (hD : 1 ≤ d) (hf : f_M_sumOf_e v1 v2 h = some o) (K0 : ∀ (a : Int32), o = a → R = some (xi a)) : xEv g l d 190 0 [(0, xr 12 (some 0)), (1, xi v1), (2, xi v2)] [] h R h := by
  unfold f_M_sumOf_e at hf
  refine xs_iconst (v := 0) d190_0 (by decide) ?_
  refine xe_istore_n (v := (0 : Int32)) (ls2 := [(0, xr 12 (some 0)), (1, xi v1), (2, xi v2), (3, xi (0 : Int32))]) d190_1 mx190 (by decide) rfl rfl ?_
  refine xs_iconst (v := 0) d190_2 (by decide) ?_
  refine xe_istore (v := (0 : Int32)) (ls2 := [(0, xr 12 (some 0)), (1, xi v1), (2, xi v2), (3, xi (0 : Int32)), (4, xi (0 : Int32))]) d190_3 mx190 (by decide) rfl rfl ?_
  exact f_M_sumOf_l5_ok hD hf K0
noncomputable def f_M_sumOf (v1 : Int32) (v2 : Int32) (h : xH) : Option Int32 := f_M_sumOf_e v1 v2 h
theorem f_M_sumOf_ok {g : xG} {l : Launch} {d : Nat} {v1 : Int32} {v2 : Int32} {h : xH} {r : Int32} (hD : 1 ≤ d) (hf : f_M_sumOf v1 v2 h = some r) : xC g l d 190 [xr 12 (some 0), xi v1, xi v2] h (some (xi r)) h :=
  xC_of2 (by decide) mx190 (Nat.le_of_ble_eq_true rfl) (f_M_sumOf_e_ok hD hf (fun _ e => by rw [e]))
theorem d191_0 : decode (xcode 191) 0 = .ok (.iconst 0, 1) := by decide +kernel
theorem d191_1 : decode (xcode 191) 1 = .ok (.istore_n 1, 1) := by decide +kernel
theorem d191_2 : decode (xcode 191) 2 = .ok (.iconst 0, 1) := by decide +kernel
theorem d191_3 : decode (xcode 191) 3 = .ok (.istore_n 2, 1) := by decide +kernel
theorem d191_4 : decode (xcode 191) 4 = .ok (.iload_n 2, 1) := by decide +kernel
theorem d191_5 : decode (xcode 191) 5 = .ok (.aload_n 0, 1) := by decide +kernel
theorem d191_6 : decode (xcode 191) 6 = .ok (.getfield 39, 3) := by decide +kernel
theorem d191_9 : decode (xcode 191) 9 = .ok (.iconst 3, 1) := by decide +kernel
theorem d191_10 : decode (xcode 191) 10 = .ok (.iaload, 1) := by decide +kernel
theorem d191_11 : decode (xcode 191) 11 = .ok (.if_icmp .ge 32, 3) := by decide +kernel
theorem d191_14 : decode (xcode 191) 14 = .ok (.iload_n 1, 1) := by decide +kernel
theorem d191_15 : decode (xcode 191) 15 = .ok (.aload_n 0, 1) := by decide +kernel
theorem d191_16 : decode (xcode 191) 16 = .ok (.getfield 39, 3) := by decide +kernel
theorem d191_19 : decode (xcode 191) 19 = .ok (.bipush 12, 2) := by decide +kernel
theorem d191_21 : decode (xcode 191) 21 = .ok (.iload_n 2, 1) := by decide +kernel
theorem d191_22 : decode (xcode 191) 22 = .ok (.iadd, 1) := by decide +kernel
theorem d191_23 : decode (xcode 191) 23 = .ok (.iaload, 1) := by decide +kernel
theorem d191_24 : decode (xcode 191) 24 = .ok (.iconst 1, 1) := by decide +kernel
theorem d191_25 : decode (xcode 191) 25 = .ok (.if_icmp .ne 9, 3) := by decide +kernel
theorem d191_28 : decode (xcode 191) 28 = .ok (.iconst 1, 1) := by decide +kernel
theorem d191_29 : decode (xcode 191) 29 = .ok (.iload_n 2, 1) := by decide +kernel
theorem d191_30 : decode (xcode 191) 30 = .ok (.ishl, 1) := by decide +kernel
theorem d191_31 : decode (xcode 191) 31 = .ok (.goto 4, 3) := by decide +kernel
theorem d191_34 : decode (xcode 191) 34 = .ok (.iconst 0, 1) := by decide +kernel
theorem d191_35 : decode (xcode 191) 35 = .ok (.ior, 1) := by decide +kernel
theorem d191_36 : decode (xcode 191) 36 = .ok (.istore_n 1, 1) := by decide +kernel
theorem d191_37 : decode (xcode 191) 37 = .ok (.iinc 2 1, 3) := by decide +kernel
theorem d191_40 : decode (xcode 191) 40 = .ok (.goto (-36), 3) := by decide +kernel
theorem d191_43 : decode (xcode 191) 43 = .ok (.iload_n 1, 1) := by decide +kernel
theorem d191_44 : decode (xcode 191) 44 = .ok (.ireturn, 1) := by decide +kernel
noncomputable def f_M_letBeOnes_b35 (v2 : Int32) (t0 : Int32) (t1 : Int32) (h : xH) : Option ((Int32 × Int32) ⊕ Int32) :=
  xlet (t1 ||| t0) fun v1_4 =>
  xlet (v2 + (1 : Int32)) fun v2_5 =>
  some (Sum.inl (v1_4, v2_5))
set_option maxHeartbeats 4000000 in
set_option maxRecDepth 100000 in
theorem f_M_letBeOnes_b35_ok {g : xG} {l : Launch} {d : Nat} {v2 : Int32} {t0 : Int32} {t1 : Int32} {h : xH} {o : ((Int32 × Int32) ⊕ Int32)} {R : Option xV} (hD : 0 ≤ d) (hf : f_M_letBeOnes_b35 v2 t0 t1 h = some o) (K1 : ∀ (w1 : Int32) (w2 : Int32), o = Sum.inl (w1, w2) → xEv g l d 191 4 [(0, xr 12 (some 0)), (1, xi w1), (2, xi w2)] [] h R h) (K0 : ∀ (a : Int32), o = Sum.inr (a) → R = some (xi a)) : xEv g l d 191 35 [(0, xr 12 (some 0)), (2, xi v2)] [xi t0, xi t1] h R h := by
  unfold f_M_letBeOnes_b35 at hf
  refine xs_ior d191_35 ?_
  obtain ⟨v1_4, ev1_4, hf⟩ := lk_let hf
  refine xe_istore_n (v := v1_4) (ls2 := [(0, xr 12 (some 0)), (1, xi v1_4), (2, xi v2)]) d191_36 mx191 (by decide) ev1_4 rfl ?_
  obtain ⟨v2_5, ev2_5, hf⟩ := lk_let hf
  refine xe_iinc (v := v2_5) (b := 1) (ls2 := [(0, xr 12 (some 0)), (1, xi v1_4), (2, xi v2_5)]) d191_37 mx191 (by decide) rfl (by decide) ev2_5 rfl ?_
  refine xs_goto (tgt := 4) d191_40 (by decide) ?_
  exact K1 _ _ (Option.some.inj hf).symm
noncomputable def f_M_letBeOnes_s4 (v1 : Int32) (v2 : Int32) (h : xH) : Option ((Int32 × Int32) ⊕ Int32) :=
  if (h.2.2.2.1 56 0 ((3 : Int32)).toNatClampNeg) ≤ v2 then (
  some (Sum.inr (v1))) else (
  if xib ((12 : Int32) + v2) 101 then (
  if (h.2.2.2.1 56 0 ((12 : Int32) + v2).toNatClampNeg) = (1 : Int32) then (
  f_M_letBeOnes_b35 v2 ((1 : Int32) <<< (v2 &&& 31)) v1 h) else (
  f_M_letBeOnes_b35 v2 (0 : Int32) v1 h)) else none)
set_option maxHeartbeats 4000000 in
set_option maxRecDepth 100000 in
theorem f_M_letBeOnes_s4_ok {g : xG} {l : Launch} {d : Nat} {v1 : Int32} {v2 : Int32} {h : xH} {o : ((Int32 × Int32) ⊕ Int32)} {R : Option xV} (hD : 0 ≤ d) (hf : f_M_letBeOnes_s4 v1 v2 h = some o) (K1 : ∀ (w1 : Int32) (w2 : Int32), o = Sum.inl (w1, w2) → xEv g l d 191 4 [(0, xr 12 (some 0)), (1, xi w1), (2, xi w2)] [] h R h) (K0 : ∀ (a : Int32), o = Sum.inr (a) → R = some (xi a)) : xEv g l d 191 4 [(0, xr 12 (some 0)), (1, xi v1), (2, xi v2)] [] h R h := by
  unfold f_M_letBeOnes_s4 at hf
  refine xs_iload_n d191_4 rfl ?_
  refine xs_aload_n d191_5 rfl ?_
  refine xe_getc (j := 0) d191_6 ky191 fl181 fk12_20 rfl ?_
  refine xs_iconst (v := 3) d191_9 (by decide) ?_
  refine xe_iald d191_10 (by decide) ak56 (show xib (3 : Int32) 101 by decide) ?_
  rcases lk_if hf with ⟨hc1, hf⟩ | ⟨hc1, hf⟩
  · refine xs_icmp_ge (tgt := 43) d191_11 (by decide) (fun _ => ?_) (fun hn => absurd hc1 hn)
    refine xs_iload_n d191_43 rfl ?_
    obtain eR := K0 _ (Option.some.inj hf).symm
    subst eR
    exact xs_iret d191_44 rt191
  · refine xs_icmp_ge (tgt := 43) d191_11 (by decide) (fun hp => absurd hp hc1) (fun _ => ?_)
    refine xs_iload_n d191_14 rfl ?_
    refine xs_aload_n d191_15 rfl ?_
    refine xe_getc (j := 0) d191_16 ky191 fl181 fk12_20 rfl ?_
    refine xs_bipush (v := 12) d191_19 (by decide) ?_
    refine xs_iload_n d191_21 rfl ?_
    refine xs_iadd d191_22 ?_
    obtain ⟨hin2, hf⟩ := lk_g hf
    refine xe_iald d191_23 (by decide) ak56 hin2 ?_
    refine xs_iconst (v := 1) d191_24 (by decide) ?_
    rcases lk_if hf with ⟨hc3, hf⟩ | ⟨hc3, hf⟩
    · refine xs_icmp_ne (tgt := 34) d191_25 (by decide) (fun _ => ?_) (fun hn => absurd hc3 hn)
      refine xs_iconst (v := 1) d191_28 (by decide) ?_
      refine xs_iload_n d191_29 rfl ?_
      refine xs_ishl d191_30 ?_
      refine xs_goto (tgt := 35) d191_31 (by decide) ?_
      refine xs_pick [0, 2] rfl ?_
      exact f_M_letBeOnes_b35_ok hD hf K1 K0
    · refine xs_icmp_ne (tgt := 34) d191_25 (by decide) (fun hp => absurd hp hc3) (fun _ => ?_)
      refine xs_iconst (v := 0) d191_34 (by decide) ?_
      refine xs_pick [0, 2] rfl ?_
      exact f_M_letBeOnes_b35_ok hD hf K1 K0
noncomputable def f_M_letBeOnes_l4 (v1 : Int32) (v2 : Int32) (h : xH) : Option Int32 :=
  whl (fun s => f_M_letBeOnes_s4 s.1 s.2 h) (v1, v2)
theorem f_M_letBeOnes_l4_ok {g : xG} {l : Launch} {d : Nat} {v1 : Int32} {v2 : Int32} {h : xH} {o : Int32} {R : Option xV} (hD : 0 ≤ d) (hf : f_M_letBeOnes_l4 v1 v2 h = some o) (K0 : ∀ (a : Int32), o = a → R = some (xi a)) : xEv g l d 191 4 [(0, xr 12 (some 0)), (1, xi v1), (2, xi v2)] [] h R h := by
  obtain ⟨n, hn⟩ := whl_iff.mp hf
  clear hf
  induction n generalizing v1 v2 with
  | zero => cases hn
  | succ n ih =>
    obtain ⟨o2, hs, hn⟩ := lk_b (show (f_M_letBeOnes_s4 v1 v2 h).bind (fun o => Sum.elim (itn _ n) some o) = some o from hn)
    exact f_M_letBeOnes_s4_ok hD hs (fun u0 u1 e => ih (by rw [e] at hn; exact hn)) (fun u0 e => K0 u0 (by rw [e] at hn; exact (Option.some.inj hn).symm))
noncomputable def f_M_letBeOnes_e (h : xH) : Option Int32 :=
  f_M_letBeOnes_l4 (0 : Int32) (0 : Int32) h
set_option maxHeartbeats 4000000 in
set_option maxRecDepth 100000 in
theorem f_M_letBeOnes_e_ok {g : xG} {l : Launch} {d : Nat} {h : xH} {o : Int32} {R : Option xV} (hD : 0 ≤ d) (hf : f_M_letBeOnes_e h = some o) (K0 : ∀ (a : Int32), o = a → R = some (xi a)) : xEv g l d 191 0 [(0, xr 12 (some 0))] [] h R h := by
  unfold f_M_letBeOnes_e at hf
  refine xs_iconst (v := 0) d191_0 (by decide) ?_
  refine xe_istore_n (v := (0 : Int32)) (ls2 := [(0, xr 12 (some 0)), (1, xi (0 : Int32))]) d191_1 mx191 (by decide) rfl rfl ?_
  refine xs_iconst (v := 0) d191_2 (by decide) ?_
  refine xe_istore_n (v := (0 : Int32)) (ls2 := [(0, xr 12 (some 0)), (1, xi (0 : Int32)), (2, xi (0 : Int32))]) d191_3 mx191 (by decide) rfl rfl ?_
  exact f_M_letBeOnes_l4_ok hD hf K0
noncomputable def f_M_letBeOnes (h : xH) : Option Int32 := f_M_letBeOnes_e h
theorem f_M_letBeOnes_ok {g : xG} {l : Launch} {d : Nat} {h : xH} {r : Int32} (hD : 0 ≤ d) (hf : f_M_letBeOnes h = some r) : xC g l d 191 [xr 12 (some 0)] h (some (xi r)) h :=
  xC_of2 (by decide) mx191 (Nat.le_of_ble_eq_true rfl) (f_M_letBeOnes_e_ok hD hf (fun _ e => by rw [e]))
theorem d192_0 : decode (xcode 192) 0 = .ok (.aload_n 0, 1) := by decide +kernel
theorem d192_1 : decode (xcode 192) 1 = .ok (.aload_n 0, 1) := by decide +kernel
theorem d192_2 : decode (xcode 192) 2 = .ok (.invokevirtual 304, 3) := by decide +kernel
theorem d192_5 : decode (xcode 192) 5 = .ok (.bipush 52, 2) := by decide +kernel
theorem d192_7 : decode (xcode 192) 7 = .ok (.invokevirtual 307, 3) := by decide +kernel
theorem d192_10 : decode (xcode 192) 10 = .ok (.ireturn, 1) := by decide +kernel
noncomputable def f_M_letBe_e (h : xH) : Option Int32 :=
  (f_M_letBeOnes h).bind fun r1 =>
  (f_M_sumOf r1 (52 : Int32) h).bind fun r3 =>
  some (r3)
set_option maxHeartbeats 4000000 in
set_option maxRecDepth 100000 in
theorem f_M_letBe_e_ok {g : xG} {l : Launch} {d : Nat} {h : xH} {o : Int32} {R : Option xV} (hD : 2 ≤ d) (hf : f_M_letBe_e h = some o) (K0 : ∀ (a : Int32), o = a → R = some (xi a)) : xEv g l d 192 0 [(0, xr 12 (some 0))] [] h R h := by
  unfold f_M_letBe_e at hf
  refine xs_aload_n d192_0 rfl ?_
  refine xs_aload_n d192_1 rfl ?_
  obtain ⟨r1, hc2, hf⟩ := lk_b hf
  refine xe_callv1 (as := []) (st := [xr 12 (some 0)]) (h2 := h) (d2 := d - 1) d192_2 ky192 ml239 st191 (by decide) cn191 rfl na191 (Nat.le_of_ble_eq_true rfl) (by omega) (f_M_letBeOnes_ok (by omega) hc2) ?_
  refine xs_bipush (v := 52) d192_5 (by decide) ?_
  obtain ⟨r3, hc4, hf⟩ := lk_b hf
  refine xe_callv1 (as := [xi r1, xi (52 : Int32)]) (st := []) (h2 := h) (d2 := d - 1) d192_7 ky192 ml237 st190 (by decide) cn190 rfl na190 (Nat.le_of_ble_eq_true rfl) (by omega) (f_M_sumOf_ok (by omega) hc4) ?_
  obtain eR := K0 _ (Option.some.inj hf).symm
  subst eR
  exact xs_iret d192_10 rt192
noncomputable def f_M_letBe (h : xH) : Option Int32 := f_M_letBe_e h
theorem f_M_letBe_ok {g : xG} {l : Launch} {d : Nat} {h : xH} {r : Int32} (hD : 2 ≤ d) (hf : f_M_letBe h = some r) : xC g l d 192 [xr 12 (some 0)] h (some (xi r)) h :=
  xC_of2 (by decide) mx192 (Nat.le_of_ble_eq_true rfl) (f_M_letBe_e_ok hD hf (fun _ e => by rw [e]))
theorem d193_0 : decode (xcode 193) 0 = .ok (.aload_n 0, 1) := by decide +kernel
theorem d193_1 : decode (xcode 193) 1 = .ok (.aload_n 0, 1) := by decide +kernel
theorem d193_2 : decode (xcode 193) 2 = .ok (.invokevirtual 295, 3) := by decide +kernel
theorem d193_5 : decode (xcode 193) 5 = .ok (.bipush 28, 2) := by decide +kernel
theorem d193_7 : decode (xcode 193) 7 = .ok (.invokevirtual 307, 3) := by decide +kernel
theorem d193_10 : decode (xcode 193) 10 = .ok (.aload_n 0, 1) := by decide +kernel
theorem d193_11 : decode (xcode 193) 11 = .ok (.getfield 39, 3) := by decide +kernel
theorem d193_14 : decode (xcode 193) 14 = .ok (.iconst 2, 1) := by decide +kernel
theorem d193_15 : decode (xcode 193) 15 = .ok (.iaload, 1) := by decide +kernel
theorem d193_16 : decode (xcode 193) 16 = .ok (.iadd, 1) := by decide +kernel
theorem d193_17 : decode (xcode 193) 17 = .ok (.ireturn, 1) := by decide +kernel
noncomputable def f_M_loadNow_e (h : xH) : Option Int32 :=
  (f_M_inside h).bind fun r1 =>
  (f_M_sumOf r1 (28 : Int32) h).bind fun r3 =>
  some (r3 + (h.2.2.2.1 56 0 ((2 : Int32)).toNatClampNeg))
set_option maxHeartbeats 4000000 in
set_option maxRecDepth 100000 in
theorem f_M_loadNow_e_ok {g : xG} {l : Launch} {d : Nat} {h : xH} {o : Int32} {R : Option xV} (hD : 3 ≤ d) (hf : f_M_loadNow_e h = some o) (K0 : ∀ (a : Int32), o = a → R = some (xi a)) : xEv g l d 193 0 [(0, xr 12 (some 0))] [] h R h := by
  unfold f_M_loadNow_e at hf
  refine xs_aload_n d193_0 rfl ?_
  refine xs_aload_n d193_1 rfl ?_
  obtain ⟨r1, hc2, hf⟩ := lk_b hf
  refine xe_callv1 (as := []) (st := [xr 12 (some 0)]) (h2 := h) (d2 := d - 1) d193_2 ky193 ml231 st187 (by decide) cn187 rfl na187 (Nat.le_of_ble_eq_true rfl) (by omega) (f_M_inside_ok (by omega) hc2) ?_
  refine xs_bipush (v := 28) d193_5 (by decide) ?_
  obtain ⟨r3, hc4, hf⟩ := lk_b hf
  refine xe_callv1 (as := [xi r1, xi (28 : Int32)]) (st := []) (h2 := h) (d2 := d - 1) d193_7 ky193 ml237 st190 (by decide) cn190 rfl na190 (Nat.le_of_ble_eq_true rfl) (by omega) (f_M_sumOf_ok (by omega) hc4) ?_
  refine xs_aload_n d193_10 rfl ?_
  refine xe_getc (j := 0) d193_11 ky193 fl181 fk12_20 rfl ?_
  refine xs_iconst (v := 2) d193_14 (by decide) ?_
  refine xe_iald d193_15 (by decide) ak56 (show xib (2 : Int32) 101 by decide) ?_
  refine xs_iadd d193_16 ?_
  obtain eR := K0 _ (Option.some.inj hf).symm
  subst eR
  exact xs_iret d193_17 rt193
noncomputable def f_M_loadNow (h : xH) : Option Int32 := f_M_loadNow_e h
theorem f_M_loadNow_ok {g : xG} {l : Launch} {d : Nat} {h : xH} {r : Int32} (hD : 3 ≤ d) (hf : f_M_loadNow h = some r) : xC g l d 193 [xr 12 (some 0)] h (some (xi r)) h :=
  xC_of2 (by decide) mx193 (Nat.le_of_ble_eq_true rfl) (f_M_loadNow_e_ok hD hf (fun _ e => by rw [e]))
theorem d195_0 : decode (xcode 195) 0 = .ok (.iload_n 1, 1) := by decide +kernel
theorem d195_1 : decode (xcode 195) 1 = .ok (.iconst (-1), 1) := by decide +kernel
theorem d195_2 : decode (xcode 195) 2 = .ok (.if_icmp .eq 14, 3) := by decide +kernel
theorem d195_5 : decode (xcode 195) 5 = .ok (.aload_n 0, 1) := by decide +kernel
theorem d195_6 : decode (xcode 195) 6 = .ok (.iload_n 1, 1) := by decide +kernel
theorem d195_7 : decode (xcode 195) 7 = .ok (.invokevirtual 311, 3) := by decide +kernel
theorem d195_10 : decode (xcode 195) 10 = .ok (.ifCond .ne 6, 3) := by decide +kernel
theorem d195_13 : decode (xcode 195) 13 = .ok (.bipush (-2), 2) := by decide +kernel
theorem d195_15 : decode (xcode 195) 15 = .ok (.ireturn, 1) := by decide +kernel
theorem d195_16 : decode (xcode 195) 16 = .ok (.aload_n 0, 1) := by decide +kernel
theorem d195_17 : decode (xcode 195) 17 = .ok (.getfield 42, 3) := by decide +kernel
theorem d195_20 : decode (xcode 195) 20 = .ok (.istore_n 2, 1) := by decide +kernel
theorem d195_21 : decode (xcode 195) 21 = .ok (.aload_n 0, 1) := by decide +kernel
theorem d195_22 : decode (xcode 195) 22 = .ok (.iload_n 1, 1) := by decide +kernel
theorem d195_23 : decode (xcode 195) 23 = .ok (.putfield 42, 3) := by decide +kernel
theorem d195_26 : decode (xcode 195) 26 = .ok (.iload_n 2, 1) := by decide +kernel
theorem d195_27 : decode (xcode 195) 27 = .ok (.ireturn, 1) := by decide +kernel
noncomputable def f_M_force_b16 (v1 : Int32) (h : xH) : Option (Int32 × xH) :=
  xlet (h.1 12 21 0) fun v2_2 =>
  xlet (xsI h 12 21 0 v1) fun h3 =>
  some ((v2_2, h3))
set_option maxHeartbeats 4000000 in
set_option maxRecDepth 100000 in
theorem f_M_force_b16_ok {g : xG} {l : Launch} {d : Nat} {v1 : Int32} {h : xH} {o : (Int32 × xH)} {R : Option xV} {H' : xH} (hD : 1 ≤ d) (hf : f_M_force_b16 v1 h = some o) (K0 : ∀ (a : Int32) (h1 : xH), o = (a, h1) → R = some (xi a) ∧ H' = h1) : xEv g l d 195 16 [(0, xr 12 (some 0)), (1, xi v1)] [] h R H' := by
  unfold f_M_force_b16 at hf
  refine xs_aload_n d195_16 rfl ?_
  refine xe_geti d195_17 ky195 fl182 fk12_21 ?_
  obtain ⟨v2_2, ev2_2, hf⟩ := lk_let hf
  refine xe_istore_n (v := v2_2) (ls2 := [(0, xr 12 (some 0)), (1, xi v1), (2, xi v2_2)]) d195_20 mx195 (by decide) ev2_2 rfl ?_
  refine xs_aload_n d195_21 rfl ?_
  refine xs_iload_n d195_22 rfl ?_
  obtain ⟨h3, eh3, hf⟩ := lk_let hf
  refine xe_puti d195_23 ky195 fl182 fk12_21 ft12_21 eh3 ?_
  refine xs_iload_n d195_26 rfl ?_
  obtain ⟨eR, eH⟩ := K0 _ _ (Option.some.inj hf).symm
  subst eR; subst eH
  exact xs_iret d195_27 rt195
noncomputable def f_M_force_e (v1 : Int32) (h : xH) : Option (Int32 × xH) :=
  if v1 = (-1 : Int32) then (
  f_M_force_b16 v1 h) else (
  (f_M_isRule v1 h).bind fun r4 =>
  if r4 = (0 : Int32) then (
  some (((-2 : Int32), h))) else (
  f_M_force_b16 v1 h))
set_option maxHeartbeats 4000000 in
set_option maxRecDepth 100000 in
theorem f_M_force_e_ok {g : xG} {l : Launch} {d : Nat} {v1 : Int32} {h : xH} {o : (Int32 × xH)} {R : Option xV} {H' : xH} (hD : 1 ≤ d) (hf : f_M_force_e v1 h = some o) (K0 : ∀ (a : Int32) (h1 : xH), o = (a, h1) → R = some (xi a) ∧ H' = h1) : xEv g l d 195 0 [(0, xr 12 (some 0)), (1, xi v1)] [] h R H' := by
  unfold f_M_force_e at hf
  refine xs_iload_n d195_0 rfl ?_
  refine xs_iconst (v := -1) d195_1 (by decide) ?_
  rcases lk_if hf with ⟨hc1, hf⟩ | ⟨hc1, hf⟩
  · refine xs_icmp_eq (tgt := 16) d195_2 (by decide) (fun _ => ?_) (fun hn => absurd hc1 hn)
    exact f_M_force_b16_ok hD hf K0
  · refine xs_icmp_eq (tgt := 16) d195_2 (by decide) (fun hp => absurd hp hc1) (fun _ => ?_)
    refine xs_aload_n d195_5 rfl ?_
    refine xs_iload_n d195_6 rfl ?_
    obtain ⟨r4, hc5, hf⟩ := lk_b hf
    refine xe_callv1 (as := [xi v1]) (st := []) (h2 := h) (d2 := d - 1) d195_7 ky195 ml219 st179 (by decide) cn179 rfl na179 (Nat.le_of_ble_eq_true rfl) (by omega) (f_M_isRule_ok (by omega) hc5) ?_
    rcases lk_if hf with ⟨hc6, hf⟩ | ⟨hc6, hf⟩
    · refine xs_if_ne (tgt := 16) d195_10 (by decide) (fun _ => ?_) (fun hn => absurd hc6 hn)
      refine xs_bipush (v := -2) d195_13 (by decide) ?_
      obtain ⟨eR, eH⟩ := K0 _ _ (Option.some.inj hf).symm
      subst eR; subst eH
      exact xs_iret d195_15 rt195
    · refine xs_if_ne (tgt := 16) d195_10 (by decide) (fun hp => absurd hp hc6) (fun _ => ?_)
      exact f_M_force_b16_ok hD hf K0
noncomputable def f_M_force (v1 : Int32) (h : xH) : Option (Int32 × xH) := f_M_force_e v1 h
theorem f_M_force_ok {g : xG} {l : Launch} {d : Nat} {v1 : Int32} {h : xH} {r : Int32} {h1 : xH} (hD : 1 ≤ d) (hf : f_M_force v1 h = some (r, h1)) : xC g l d 195 [xr 12 (some 0), xi v1] h (some (xi r)) h1 :=
  xC_of2 (by decide) mx195 (Nat.le_of_ble_eq_true rfl) (f_M_force_e_ok hD hf (fun _ _ e => by cases e; exact ⟨rfl, rfl⟩))
theorem d196_0 : decode (xcode 196) 0 = .ok (.aload_n 0, 1) := by decide +kernel
theorem d196_1 : decode (xcode 196) 1 = .ok (.iload_n 1, 1) := by decide +kernel
theorem d196_2 : decode (xcode 196) 2 = .ok (.invokevirtual 290, 3) := by decide +kernel
theorem d196_5 : decode (xcode 196) 5 = .ok (.ifCond .ne 6, 3) := by decide +kernel
theorem d196_8 : decode (xcode 196) 8 = .ok (.bipush (-2), 2) := by decide +kernel
theorem d196_10 : decode (xcode 196) 10 = .ok (.ireturn, 1) := by decide +kernel
theorem d196_11 : decode (xcode 196) 11 = .ok (.iload_n 2, 1) := by decide +kernel
theorem d196_12 : decode (xcode 196) 12 = .ok (.tableswitch 100 0 5 #[40, 50, 60, 70, 80, 90], 40) := by decide +kernel
theorem d196_52 : decode (xcode 196) 52 = .ok (.aload_n 0, 1) := by decide +kernel
theorem d196_53 : decode (xcode 196) 53 = .ok (.getfield 39, 3) := by decide +kernel
theorem d196_56 : decode (xcode 196) 56 = .ok (.bipush 28, 2) := by decide +kernel
theorem d196_58 : decode (xcode 196) 58 = .ok (.iload_n 1, 1) := by decide +kernel
theorem d196_59 : decode (xcode 196) 59 = .ok (.iadd, 1) := by decide +kernel
theorem d196_60 : decode (xcode 196) 60 = .ok (.iaload, 1) := by decide +kernel
theorem d196_61 : decode (xcode 196) 61 = .ok (.ireturn, 1) := by decide +kernel
theorem d196_62 : decode (xcode 196) 62 = .ok (.aload_n 0, 1) := by decide +kernel
theorem d196_63 : decode (xcode 196) 63 = .ok (.getfield 39, 3) := by decide +kernel
theorem d196_66 : decode (xcode 196) 66 = .ok (.bipush 44, 2) := by decide +kernel
theorem d196_68 : decode (xcode 196) 68 = .ok (.iload_n 1, 1) := by decide +kernel
theorem d196_69 : decode (xcode 196) 69 = .ok (.iadd, 1) := by decide +kernel
theorem d196_70 : decode (xcode 196) 70 = .ok (.iaload, 1) := by decide +kernel
theorem d196_71 : decode (xcode 196) 71 = .ok (.ireturn, 1) := by decide +kernel
theorem d196_72 : decode (xcode 196) 72 = .ok (.aload_n 0, 1) := by decide +kernel
theorem d196_73 : decode (xcode 196) 73 = .ok (.getfield 39, 3) := by decide +kernel
theorem d196_76 : decode (xcode 196) 76 = .ok (.bipush 52, 2) := by decide +kernel
theorem d196_78 : decode (xcode 196) 78 = .ok (.iload_n 1, 1) := by decide +kernel
theorem d196_79 : decode (xcode 196) 79 = .ok (.iadd, 1) := by decide +kernel
theorem d196_80 : decode (xcode 196) 80 = .ok (.iaload, 1) := by decide +kernel
theorem d196_81 : decode (xcode 196) 81 = .ok (.ireturn, 1) := by decide +kernel
theorem d196_82 : decode (xcode 196) 82 = .ok (.aload_n 0, 1) := by decide +kernel
theorem d196_83 : decode (xcode 196) 83 = .ok (.getfield 39, 3) := by decide +kernel
theorem d196_86 : decode (xcode 196) 86 = .ok (.bipush 12, 2) := by decide +kernel
theorem d196_88 : decode (xcode 196) 88 = .ok (.iload_n 1, 1) := by decide +kernel
theorem d196_89 : decode (xcode 196) 89 = .ok (.iadd, 1) := by decide +kernel
theorem d196_90 : decode (xcode 196) 90 = .ok (.iaload, 1) := by decide +kernel
theorem d196_91 : decode (xcode 196) 91 = .ok (.ireturn, 1) := by decide +kernel
theorem d196_92 : decode (xcode 196) 92 = .ok (.aload_n 0, 1) := by decide +kernel
theorem d196_93 : decode (xcode 196) 93 = .ok (.getfield 39, 3) := by decide +kernel
theorem d196_96 : decode (xcode 196) 96 = .ok (.bipush 20, 2) := by decide +kernel
theorem d196_98 : decode (xcode 196) 98 = .ok (.iload_n 1, 1) := by decide +kernel
theorem d196_99 : decode (xcode 196) 99 = .ok (.iadd, 1) := by decide +kernel
theorem d196_100 : decode (xcode 196) 100 = .ok (.iaload, 1) := by decide +kernel
theorem d196_101 : decode (xcode 196) 101 = .ok (.ireturn, 1) := by decide +kernel
theorem d196_102 : decode (xcode 196) 102 = .ok (.aload_n 0, 1) := by decide +kernel
theorem d196_103 : decode (xcode 196) 103 = .ok (.getfield 39, 3) := by decide +kernel
theorem d196_106 : decode (xcode 196) 106 = .ok (.bipush 36, 2) := by decide +kernel
theorem d196_108 : decode (xcode 196) 108 = .ok (.iload_n 1, 1) := by decide +kernel
theorem d196_109 : decode (xcode 196) 109 = .ok (.iadd, 1) := by decide +kernel
theorem d196_110 : decode (xcode 196) 110 = .ok (.iaload, 1) := by decide +kernel
theorem d196_111 : decode (xcode 196) 111 = .ok (.ireturn, 1) := by decide +kernel
theorem d196_112 : decode (xcode 196) 112 = .ok (.bipush (-2), 2) := by decide +kernel
theorem d196_114 : decode (xcode 196) 114 = .ok (.ireturn, 1) := by decide +kernel
noncomputable def f_M_sorrow_e (v1 : Int32) (v2 : Int32) (h : xH) : Option Int32 :=
  (f_M_isSorrow v1 h).bind fun r1 =>
  if r1 = (0 : Int32) then (
  some ((-2 : Int32))) else (
  if v2 = (0 : Int32) then (
  if xib ((28 : Int32) + v1) 101 then (
  some (h.2.2.2.1 56 0 ((28 : Int32) + v1).toNatClampNeg)) else none) else (
  if v2 = (1 : Int32) then (
  if xib ((44 : Int32) + v1) 101 then (
  some (h.2.2.2.1 56 0 ((44 : Int32) + v1).toNatClampNeg)) else none) else (
  if v2 = (2 : Int32) then (
  if xib ((52 : Int32) + v1) 101 then (
  some (h.2.2.2.1 56 0 ((52 : Int32) + v1).toNatClampNeg)) else none) else (
  if v2 = (3 : Int32) then (
  if xib ((12 : Int32) + v1) 101 then (
  some (h.2.2.2.1 56 0 ((12 : Int32) + v1).toNatClampNeg)) else none) else (
  if v2 = (4 : Int32) then (
  if xib ((20 : Int32) + v1) 101 then (
  some (h.2.2.2.1 56 0 ((20 : Int32) + v1).toNatClampNeg)) else none) else (
  if v2 = (5 : Int32) then (
  if xib ((36 : Int32) + v1) 101 then (
  some (h.2.2.2.1 56 0 ((36 : Int32) + v1).toNatClampNeg)) else none) else (
  some ((-2 : Int32)))))))))
set_option maxHeartbeats 4000000 in
set_option maxRecDepth 100000 in
theorem f_M_sorrow_e_ok {g : xG} {l : Launch} {d : Nat} {v1 : Int32} {v2 : Int32} {h : xH} {o : Int32} {R : Option xV} (hD : 1 ≤ d) (hf : f_M_sorrow_e v1 v2 h = some o) (K0 : ∀ (a : Int32), o = a → R = some (xi a)) : xEv g l d 196 0 [(0, xr 12 (some 0)), (1, xi v1), (2, xi v2)] [] h R h := by
  unfold f_M_sorrow_e at hf
  refine xs_aload_n d196_0 rfl ?_
  refine xs_iload_n d196_1 rfl ?_
  obtain ⟨r1, hc2, hf⟩ := lk_b hf
  refine xe_callv1 (as := [xi v1]) (st := []) (h2 := h) (d2 := d - 1) d196_2 ky196 ml221 st185 (by decide) cn185 rfl na185 (Nat.le_of_ble_eq_true rfl) (by omega) (f_M_isSorrow_ok (by omega) hc2) ?_
  rcases lk_if hf with ⟨hc3, hf⟩ | ⟨hc3, hf⟩
  · refine xs_if_ne (tgt := 11) d196_5 (by decide) (fun _ => ?_) (fun hn => absurd hc3 hn)
    refine xs_bipush (v := -2) d196_8 (by decide) ?_
    obtain eR := K0 _ (Option.some.inj hf).symm
    subst eR
    exact xs_iret d196_10 rt196
  · refine xs_if_ne (tgt := 11) d196_5 (by decide) (fun hp => absurd hp hc3) (fun _ => ?_)
    refine xs_iload_n d196_11 rfl ?_
    rcases lk_if hf with ⟨hc4, hf⟩ | ⟨hc4, hf⟩
    · refine xs_tableIn (tgt := 52) d196_12 (by rw [hc4]; decide) (by rw [hc4]; decide) (by rw [hc4]; first | done | rfl) (by decide) ?_
      refine xs_aload_n d196_52 rfl ?_
      refine xe_getc (j := 0) d196_53 ky196 fl181 fk12_20 rfl ?_
      refine xs_bipush (v := 28) d196_56 (by decide) ?_
      refine xs_iload_n d196_58 rfl ?_
      refine xs_iadd d196_59 ?_
      obtain ⟨hin5, hf⟩ := lk_g hf
      refine xe_iald d196_60 (by decide) ak56 hin5 ?_
      obtain eR := K0 _ (Option.some.inj hf).symm
      subst eR
      exact xs_iret d196_61 rt196
    · skip
      rcases lk_if hf with ⟨hc6, hf⟩ | ⟨hc6, hf⟩
      · refine xs_tableIn (tgt := 62) d196_12 (by rw [hc6]; decide) (by rw [hc6]; decide) (by rw [hc6]; first | done | rfl) (by decide) ?_
        refine xs_aload_n d196_62 rfl ?_
        refine xe_getc (j := 0) d196_63 ky196 fl181 fk12_20 rfl ?_
        refine xs_bipush (v := 44) d196_66 (by decide) ?_
        refine xs_iload_n d196_68 rfl ?_
        refine xs_iadd d196_69 ?_
        obtain ⟨hin7, hf⟩ := lk_g hf
        refine xe_iald d196_70 (by decide) ak56 hin7 ?_
        obtain eR := K0 _ (Option.some.inj hf).symm
        subst eR
        exact xs_iret d196_71 rt196
      · skip
        rcases lk_if hf with ⟨hc8, hf⟩ | ⟨hc8, hf⟩
        · refine xs_tableIn (tgt := 72) d196_12 (by rw [hc8]; decide) (by rw [hc8]; decide) (by rw [hc8]; first | done | rfl) (by decide) ?_
          refine xs_aload_n d196_72 rfl ?_
          refine xe_getc (j := 0) d196_73 ky196 fl181 fk12_20 rfl ?_
          refine xs_bipush (v := 52) d196_76 (by decide) ?_
          refine xs_iload_n d196_78 rfl ?_
          refine xs_iadd d196_79 ?_
          obtain ⟨hin9, hf⟩ := lk_g hf
          refine xe_iald d196_80 (by decide) ak56 hin9 ?_
          obtain eR := K0 _ (Option.some.inj hf).symm
          subst eR
          exact xs_iret d196_81 rt196
        · skip
          rcases lk_if hf with ⟨hc10, hf⟩ | ⟨hc10, hf⟩
          · refine xs_tableIn (tgt := 82) d196_12 (by rw [hc10]; decide) (by rw [hc10]; decide) (by rw [hc10]; first | done | rfl) (by decide) ?_
            refine xs_aload_n d196_82 rfl ?_
            refine xe_getc (j := 0) d196_83 ky196 fl181 fk12_20 rfl ?_
            refine xs_bipush (v := 12) d196_86 (by decide) ?_
            refine xs_iload_n d196_88 rfl ?_
            refine xs_iadd d196_89 ?_
            obtain ⟨hin11, hf⟩ := lk_g hf
            refine xe_iald d196_90 (by decide) ak56 hin11 ?_
            obtain eR := K0 _ (Option.some.inj hf).symm
            subst eR
            exact xs_iret d196_91 rt196
          · skip
            rcases lk_if hf with ⟨hc12, hf⟩ | ⟨hc12, hf⟩
            · refine xs_tableIn (tgt := 92) d196_12 (by rw [hc12]; decide) (by rw [hc12]; decide) (by rw [hc12]; first | done | rfl) (by decide) ?_
              refine xs_aload_n d196_92 rfl ?_
              refine xe_getc (j := 0) d196_93 ky196 fl181 fk12_20 rfl ?_
              refine xs_bipush (v := 20) d196_96 (by decide) ?_
              refine xs_iload_n d196_98 rfl ?_
              refine xs_iadd d196_99 ?_
              obtain ⟨hin13, hf⟩ := lk_g hf
              refine xe_iald d196_100 (by decide) ak56 hin13 ?_
              obtain eR := K0 _ (Option.some.inj hf).symm
              subst eR
              exact xs_iret d196_101 rt196
            · skip
              rcases lk_if hf with ⟨hc14, hf⟩ | ⟨hc14, hf⟩
              · refine xs_tableIn (tgt := 102) d196_12 (by rw [hc14]; decide) (by rw [hc14]; decide) (by rw [hc14]; first | done | rfl) (by decide) ?_
                refine xs_aload_n d196_102 rfl ?_
                refine xe_getc (j := 0) d196_103 ky196 fl181 fk12_20 rfl ?_
                refine xs_bipush (v := 36) d196_106 (by decide) ?_
                refine xs_iload_n d196_108 rfl ?_
                refine xs_iadd d196_109 ?_
                obtain ⟨hin15, hf⟩ := lk_g hf
                refine xe_iald d196_110 (by decide) ak56 hin15 ?_
                obtain eR := K0 _ (Option.some.inj hf).symm
                subst eR
                exact xs_iret d196_111 rt196
              · skip
                refine xs_tableOut (tgt := 112) d196_12 (xsw_out (fun k q1 q2 => ?_)) (by decide) ?_
                · rcases (show k = 0 ∨ k = 1 ∨ k = 2 ∨ k = 3 ∨ k = 4 ∨ k = 5 by omega) with rfl | rfl | rfl | rfl | rfl | rfl
                  · exact fun e => hc4 (e.trans (by decide))
                  · exact fun e => hc6 (e.trans (by decide))
                  · exact fun e => hc8 (e.trans (by decide))
                  · exact fun e => hc10 (e.trans (by decide))
                  · exact fun e => hc12 (e.trans (by decide))
                  · exact fun e => hc14 (e.trans (by decide))
                · skip
                  refine xs_bipush (v := -2) d196_112 (by decide) ?_
                  obtain eR := K0 _ (Option.some.inj hf).symm
                  subst eR
                  exact xs_iret d196_114 rt196
noncomputable def f_M_sorrow (v1 : Int32) (v2 : Int32) (h : xH) : Option Int32 := f_M_sorrow_e v1 v2 h
theorem f_M_sorrow_ok {g : xG} {l : Launch} {d : Nat} {v1 : Int32} {v2 : Int32} {h : xH} {r : Int32} (hD : 1 ≤ d) (hf : f_M_sorrow v1 v2 h = some r) : xC g l d 196 [xr 12 (some 0), xi v1, xi v2] h (some (xi r)) h :=
  xC_of2 (by decide) mx196 (Nat.le_of_ble_eq_true rfl) (f_M_sorrow_e_ok hD hf (fun _ e => by rw [e]))
theorem d197_0 : decode (xcode 197) 0 = .ok (.iload_n 1, 1) := by decide +kernel
theorem d197_1 : decode (xcode 197) 1 = .ok (.ifCond .lt 25, 3) := by decide +kernel
theorem d197_4 : decode (xcode 197) 4 = .ok (.iload_n 1, 1) := by decide +kernel
theorem d197_5 : decode (xcode 197) 5 = .ok (.aload_n 0, 1) := by decide +kernel
theorem d197_6 : decode (xcode 197) 6 = .ok (.getfield 39, 3) := by decide +kernel
theorem d197_9 : decode (xcode 197) 9 = .ok (.iconst 4, 1) := by decide +kernel
theorem d197_10 : decode (xcode 197) 10 = .ok (.iaload, 1) := by decide +kernel
theorem d197_11 : decode (xcode 197) 11 = .ok (.if_icmp .ge 15, 3) := by decide +kernel
theorem d197_14 : decode (xcode 197) 14 = .ok (.aload_n 0, 1) := by decide +kernel
theorem d197_15 : decode (xcode 197) 15 = .ok (.getfield 39, 3) := by decide +kernel
theorem d197_18 : decode (xcode 197) 18 = .ok (.bipush 60, 2) := by decide +kernel
theorem d197_20 : decode (xcode 197) 20 = .ok (.iload_n 1, 1) := by decide +kernel
theorem d197_21 : decode (xcode 197) 21 = .ok (.iadd, 1) := by decide +kernel
theorem d197_22 : decode (xcode 197) 22 = .ok (.iaload, 1) := by decide +kernel
theorem d197_23 : decode (xcode 197) 23 = .ok (.goto 4, 3) := by decide +kernel
theorem d197_26 : decode (xcode 197) 26 = .ok (.iconst (-1), 1) := by decide +kernel
theorem d197_27 : decode (xcode 197) 27 = .ok (.ireturn, 1) := by decide +kernel
noncomputable def f_M_carrier_e (v1 : Int32) (h : xH) : Option Int32 :=
  if v1 < (0 : Int32) then (
  some ((-1 : Int32))) else (
  if (h.2.2.2.1 56 0 ((4 : Int32)).toNatClampNeg) ≤ v1 then (
  some ((-1 : Int32))) else (
  if xib ((60 : Int32) + v1) 101 then (
  some (h.2.2.2.1 56 0 ((60 : Int32) + v1).toNatClampNeg)) else none))
set_option maxHeartbeats 4000000 in
set_option maxRecDepth 100000 in
theorem f_M_carrier_e_ok {g : xG} {l : Launch} {d : Nat} {v1 : Int32} {h : xH} {o : Int32} {R : Option xV} (hD : 0 ≤ d) (hf : f_M_carrier_e v1 h = some o) (K0 : ∀ (a : Int32), o = a → R = some (xi a)) : xEv g l d 197 0 [(0, xr 12 (some 0)), (1, xi v1)] [] h R h := by
  unfold f_M_carrier_e at hf
  refine xs_iload_n d197_0 rfl ?_
  rcases lk_if hf with ⟨hc1, hf⟩ | ⟨hc1, hf⟩
  · refine xs_if_lt (tgt := 26) d197_1 (by decide) (fun _ => ?_) (fun hn => absurd hc1 hn)
    refine xs_iconst (v := -1) d197_26 (by decide) ?_
    obtain eR := K0 _ (Option.some.inj hf).symm
    subst eR
    exact xs_iret d197_27 rt197
  · refine xs_if_lt (tgt := 26) d197_1 (by decide) (fun hp => absurd hp hc1) (fun _ => ?_)
    refine xs_iload_n d197_4 rfl ?_
    refine xs_aload_n d197_5 rfl ?_
    refine xe_getc (j := 0) d197_6 ky197 fl181 fk12_20 rfl ?_
    refine xs_iconst (v := 4) d197_9 (by decide) ?_
    refine xe_iald d197_10 (by decide) ak56 (show xib (4 : Int32) 101 by decide) ?_
    rcases lk_if hf with ⟨hc2, hf⟩ | ⟨hc2, hf⟩
    · refine xs_icmp_ge (tgt := 26) d197_11 (by decide) (fun _ => ?_) (fun hn => absurd hc2 hn)
      refine xs_iconst (v := -1) d197_26 (by decide) ?_
      obtain eR := K0 _ (Option.some.inj hf).symm
      subst eR
      exact xs_iret d197_27 rt197
    · refine xs_icmp_ge (tgt := 26) d197_11 (by decide) (fun hp => absurd hp hc2) (fun _ => ?_)
      refine xs_aload_n d197_14 rfl ?_
      refine xe_getc (j := 0) d197_15 ky197 fl181 fk12_20 rfl ?_
      refine xs_bipush (v := 60) d197_18 (by decide) ?_
      refine xs_iload_n d197_20 rfl ?_
      refine xs_iadd d197_21 ?_
      obtain ⟨hin3, hf⟩ := lk_g hf
      refine xe_iald d197_22 (by decide) ak56 hin3 ?_
      refine xs_goto (tgt := 27) d197_23 (by decide) ?_
      obtain eR := K0 _ (Option.some.inj hf).symm
      subst eR
      exact xs_iret d197_27 rt197
noncomputable def f_M_carrier (v1 : Int32) (h : xH) : Option Int32 := f_M_carrier_e v1 h
theorem f_M_carrier_ok {g : xG} {l : Launch} {d : Nat} {v1 : Int32} {h : xH} {r : Int32} (hD : 0 ≤ d) (hf : f_M_carrier v1 h = some r) : xC g l d 197 [xr 12 (some 0), xi v1] h (some (xi r)) h :=
  xC_of2 (by decide) mx197 (Nat.le_of_ble_eq_true rfl) (f_M_carrier_e_ok hD hf (fun _ e => by rw [e]))
theorem d198_0 : decode (xcode 198) 0 = .ok (.iconst 0, 1) := by decide +kernel
theorem d198_1 : decode (xcode 198) 1 = .ok (.istore_n 2, 1) := by decide +kernel
theorem d198_2 : decode (xcode 198) 2 = .ok (.iload_n 2, 1) := by decide +kernel
theorem d198_3 : decode (xcode 198) 3 = .ok (.aload_n 0, 1) := by decide +kernel
theorem d198_4 : decode (xcode 198) 4 = .ok (.getfield 23, 3) := by decide +kernel
theorem d198_7 : decode (xcode 198) 7 = .ok (.iload_n 1, 1) := by decide +kernel
theorem d198_8 : decode (xcode 198) 8 = .ok (.iaload, 1) := by decide +kernel
theorem d198_9 : decode (xcode 198) 9 = .ok (.if_icmp .ge 75, 3) := by decide +kernel
theorem d198_12 : decode (xcode 198) 12 = .ok (.bipush 48, 2) := by decide +kernel
theorem d198_14 : decode (xcode 198) 14 = .ok (.iload_n 1, 1) := by decide +kernel
theorem d198_15 : decode (xcode 198) 15 = .ok (.imul, 1) := by decide +kernel
theorem d198_16 : decode (xcode 198) 16 = .ok (.iconst 4, 1) := by decide +kernel
theorem d198_17 : decode (xcode 198) 17 = .ok (.iload_n 2, 1) := by decide +kernel
theorem d198_18 : decode (xcode 198) 18 = .ok (.imul, 1) := by decide +kernel
theorem d198_19 : decode (xcode 198) 19 = .ok (.iadd, 1) := by decide +kernel
theorem d198_20 : decode (xcode 198) 20 = .ok (.istore_n 3, 1) := by decide +kernel
theorem d198_21 : decode (xcode 198) 21 = .ok (.aload_n 0, 1) := by decide +kernel
theorem d198_22 : decode (xcode 198) 22 = .ok (.getfield 20, 3) := by decide +kernel
theorem d198_25 : decode (xcode 198) 25 = .ok (.iload_n 3, 1) := by decide +kernel
theorem d198_26 : decode (xcode 198) 26 = .ok (.iconst 2, 1) := by decide +kernel
theorem d198_27 : decode (xcode 198) 27 = .ok (.iadd, 1) := by decide +kernel
theorem d198_28 : decode (xcode 198) 28 = .ok (.iaload, 1) := by decide +kernel
theorem d198_29 : decode (xcode 198) 29 = .ok (.ifCond .lt 29, 3) := by decide +kernel
theorem d198_32 : decode (xcode 198) 32 = .ok (.aload_n 0, 1) := by decide +kernel
theorem d198_33 : decode (xcode 198) 33 = .ok (.iload_n 1, 1) := by decide +kernel
theorem d198_34 : decode (xcode 198) 34 = .ok (.aload_n 0, 1) := by decide +kernel
theorem d198_35 : decode (xcode 198) 35 = .ok (.getfield 20, 3) := by decide +kernel
theorem d198_38 : decode (xcode 198) 38 = .ok (.iload_n 3, 1) := by decide +kernel
theorem d198_39 : decode (xcode 198) 39 = .ok (.iconst 2, 1) := by decide +kernel
theorem d198_40 : decode (xcode 198) 40 = .ok (.iadd, 1) := by decide +kernel
theorem d198_41 : decode (xcode 198) 41 = .ok (.iaload, 1) := by decide +kernel
theorem d198_42 : decode (xcode 198) 42 = .ok (.aload_n 0, 1) := by decide +kernel
theorem d198_43 : decode (xcode 198) 43 = .ok (.getfield 20, 3) := by decide +kernel
theorem d198_46 : decode (xcode 198) 46 = .ok (.iload_n 3, 1) := by decide +kernel
theorem d198_47 : decode (xcode 198) 47 = .ok (.iconst 3, 1) := by decide +kernel
theorem d198_48 : decode (xcode 198) 48 = .ok (.iadd, 1) := by decide +kernel
theorem d198_49 : decode (xcode 198) 49 = .ok (.iaload, 1) := by decide +kernel
theorem d198_50 : decode (xcode 198) 50 = .ok (.invokevirtual 314, 3) := by decide +kernel
theorem d198_53 : decode (xcode 198) 53 = .ok (.lconst 1, 1) := by decide +kernel
theorem d198_54 : decode (xcode 198) 54 = .ok (.lcmp, 1) := by decide +kernel
theorem d198_55 : decode (xcode 198) 55 = .ok (.ifCond .ne 23, 3) := by decide +kernel
theorem d198_58 : decode (xcode 198) 58 = .ok (.aload_n 0, 1) := by decide +kernel
theorem d198_59 : decode (xcode 198) 59 = .ok (.iload_n 1, 1) := by decide +kernel
theorem d198_60 : decode (xcode 198) 60 = .ok (.aload_n 0, 1) := by decide +kernel
theorem d198_61 : decode (xcode 198) 61 = .ok (.getfield 20, 3) := by decide +kernel
theorem d198_64 : decode (xcode 198) 64 = .ok (.iload_n 3, 1) := by decide +kernel
theorem d198_65 : decode (xcode 198) 65 = .ok (.iaload, 1) := by decide +kernel
theorem d198_66 : decode (xcode 198) 66 = .ok (.aload_n 0, 1) := by decide +kernel
theorem d198_67 : decode (xcode 198) 67 = .ok (.getfield 20, 3) := by decide +kernel
theorem d198_70 : decode (xcode 198) 70 = .ok (.iload_n 3, 1) := by decide +kernel
theorem d198_71 : decode (xcode 198) 71 = .ok (.iconst 1, 1) := by decide +kernel
theorem d198_72 : decode (xcode 198) 72 = .ok (.iadd, 1) := by decide +kernel
theorem d198_73 : decode (xcode 198) 73 = .ok (.iaload, 1) := by decide +kernel
theorem d198_74 : decode (xcode 198) 74 = .ok (.invokevirtual 314, 3) := by decide +kernel
theorem d198_77 : decode (xcode 198) 77 = .ok (.lreturn, 1) := by decide +kernel
theorem d198_78 : decode (xcode 198) 78 = .ok (.iinc 2 1, 3) := by decide +kernel
theorem d198_81 : decode (xcode 198) 81 = .ok (.goto (-79), 3) := by decide +kernel
theorem d198_84 : decode (xcode 198) 84 = .ok (.lconst 0, 1) := by decide +kernel
theorem d198_85 : decode (xcode 198) 85 = .ok (.lreturn, 1) := by decide +kernel
noncomputable def f_M_summedBy_b58 (v1 : Int32) (v3 : Int32) (h : xH) : Option (Int64 × xH) :=
  if xib v3 288 then (
  if xib (v3 + (1 : Int32)) 288 then (
  (f_M_reckons v1 (h.2.2.2.1 50 0 (v3).toNatClampNeg) (h.2.2.2.1 50 0 (v3 + (1 : Int32)).toNatClampNeg) h).bind fun q10 =>
  some ((q10.1, q10.2))) else none) else none
set_option maxHeartbeats 4000000 in
set_option maxRecDepth 100000 in
theorem f_M_summedBy_b58_ok {g : xG} {l : Launch} {d : Nat} {v1 : Int32} {v3 : Int32} {h : xH} {o : (Int64 × xH)} {R : Option xV} {H' : xH} (hD : 2 ≤ d) (hf : f_M_summedBy_b58 v1 v3 h = some o) (K0 : ∀ (a : Int64) (h1 : xH), o = (a, h1) → R = some (xl a) ∧ H' = h1) : xEv g l d 198 58 [(0, xr 12 (some 0)), (1, xi v1), (3, xi v3)] [] h R H' := by
  unfold f_M_summedBy_b58 at hf
  refine xs_aload_n d198_58 rfl ?_
  refine xs_iload_n d198_59 rfl ?_
  refine xs_aload_n d198_60 rfl ?_
  refine xe_getc (j := 0) d198_61 ky198 fl166 fk12_5 rfl ?_
  refine xs_iload_n d198_64 rfl ?_
  obtain ⟨hin6, hf⟩ := lk_g hf
  refine xe_iald d198_65 (by decide) ak50 hin6 ?_
  refine xs_aload_n d198_66 rfl ?_
  refine xe_getc (j := 0) d198_67 ky198 fl166 fk12_5 rfl ?_
  refine xs_iload_n d198_70 rfl ?_
  refine xs_iconst (v := 1) d198_71 (by decide) ?_
  refine xs_iadd d198_72 ?_
  obtain ⟨hin7, hf⟩ := lk_g hf
  refine xe_iald d198_73 (by decide) ak50 hin7 ?_
  obtain ⟨q10, hc9, hf⟩ := lk_b hf
  refine xe_callv1 (as := [xi v1, xi (h.2.2.2.1 50 0 (v3).toNatClampNeg), xi (h.2.2.2.1 50 0 (v3 + (1 : Int32)).toNatClampNeg)]) (st := []) (h2 := q10.2) (d2 := d - 1) d198_74 ky198 ml241 st183 (by decide) cn183 rfl na183 (Nat.le_of_ble_eq_true rfl) (by omega) (f_M_reckons_ok (by omega) hc9) ?_
  obtain ⟨eR, eH⟩ := K0 _ _ (Option.some.inj hf).symm
  subst eR; subst eH
  exact xs_lret d198_77 rt198
noncomputable def f_M_summedBy_s2 (v1 : Int32) (v2 : Int32) (h : xH) : Option ((Int32 × xH) ⊕ (Int64 × xH)) :=
  if xib v1 6 then (
  if (h.2.2.2.1 51 0 (v1).toNatClampNeg) ≤ v2 then (
  some (Sum.inr (((0 : Int64), h)))) else (
  xlet (((48 : Int32) * v1) + ((4 : Int32) * v2)) fun v3_3 =>
  if xib (v3_3 + (2 : Int32)) 288 then (
  if (h.2.2.2.1 50 0 (v3_3 + (2 : Int32)).toNatClampNeg) < (0 : Int32) then (
  xup (f_M_summedBy_b58 v1 v3_3 h)) else (
  if xib (v3_3 + (2 : Int32)) 288 then (
  if xib (v3_3 + (3 : Int32)) 288 then (
  (f_M_reckons v1 (h.2.2.2.1 50 0 (v3_3 + (2 : Int32)).toNatClampNeg) (h.2.2.2.1 50 0 (v3_3 + (3 : Int32)).toNatClampNeg) h).bind fun q15 =>
  if (lg_cmp q15.1 (1 : Int64)) = (0 : Int32) then (
  xup (f_M_summedBy_b58 v1 v3_3 q15.2)) else (
  xlet (v2 + (1 : Int32)) fun v2_17 =>
  some (Sum.inl (v2_17, q15.2)))) else none) else none)) else none)) else none
set_option maxHeartbeats 4000000 in
set_option maxRecDepth 100000 in
theorem f_M_summedBy_s2_ok {g : xG} {l : Launch} {d : Nat} {v1 : Int32} {v2 : Int32} {h : xH} {o : ((Int32 × xH) ⊕ (Int64 × xH))} {R : Option xV} {H' : xH} (hD : 2 ≤ d) (hf : f_M_summedBy_s2 v1 v2 h = some o) (K1 : ∀ (w2 : Int32) (h1 : xH), o = Sum.inl (w2, h1) → xEv g l d 198 2 [(0, xr 12 (some 0)), (1, xi v1), (2, xi w2)] [] h1 R H') (K0 : ∀ (a : Int64) (h1 : xH), o = Sum.inr ((a, h1)) → R = some (xl a) ∧ H' = h1) : xEv g l d 198 2 [(0, xr 12 (some 0)), (1, xi v1), (2, xi v2)] [] h R H' := by
  unfold f_M_summedBy_s2 at hf
  refine xs_iload_n d198_2 rfl ?_
  refine xs_aload_n d198_3 rfl ?_
  refine xe_getc (j := 0) d198_4 ky198 fl167 fk12_6 rfl ?_
  refine xs_iload_n d198_7 rfl ?_
  obtain ⟨hin1, hf⟩ := lk_g hf
  refine xe_iald d198_8 (by decide) ak51 hin1 ?_
  rcases lk_if hf with ⟨hc2, hf⟩ | ⟨hc2, hf⟩
  · refine xs_icmp_ge (tgt := 84) d198_9 (by decide) (fun _ => ?_) (fun hn => absurd hc2 hn)
    refine xs_lconst (v := 0) d198_84 (by decide) ?_
    obtain ⟨eR, eH⟩ := K0 _ _ (Option.some.inj hf).symm
    subst eR; subst eH
    exact xs_lret d198_85 rt198
  · refine xs_icmp_ge (tgt := 84) d198_9 (by decide) (fun hp => absurd hp hc2) (fun _ => ?_)
    refine xs_bipush (v := 48) d198_12 (by decide) ?_
    refine xs_iload_n d198_14 rfl ?_
    refine xs_imul d198_15 ?_
    refine xs_iconst (v := 4) d198_16 (by decide) ?_
    refine xs_iload_n d198_17 rfl ?_
    refine xs_imul d198_18 ?_
    refine xs_iadd d198_19 ?_
    obtain ⟨v3_3, ev3_3, hf⟩ := lk_let hf
    refine xe_istore_n (v := v3_3) (ls2 := [(0, xr 12 (some 0)), (1, xi v1), (2, xi v2), (3, xi v3_3)]) d198_20 mx198 (by decide) ev3_3 rfl ?_
    refine xs_aload_n d198_21 rfl ?_
    refine xe_getc (j := 0) d198_22 ky198 fl166 fk12_5 rfl ?_
    refine xs_iload_n d198_25 rfl ?_
    refine xs_iconst (v := 2) d198_26 (by decide) ?_
    refine xs_iadd d198_27 ?_
    obtain ⟨hin4, hf⟩ := lk_g hf
    refine xe_iald d198_28 (by decide) ak50 hin4 ?_
    rcases lk_if hf with ⟨hc5, hf⟩ | ⟨hc5, hf⟩
    · refine xs_if_lt (tgt := 58) d198_29 (by decide) (fun _ => ?_) (fun hn => absurd hc5 hn)
      refine xs_pick [0, 1, 3] rfl ?_
      obtain ⟨x0, hf, ex0⟩ := lk_up hf
      exact f_M_summedBy_b58_ok hD hf (fun u0 u1 e => K0 u0 u1 (ex0.trans (congrArg Sum.inr e)))
    · refine xs_if_lt (tgt := 58) d198_29 (by decide) (fun hp => absurd hp hc5) (fun _ => ?_)
      refine xs_aload_n d198_32 rfl ?_
      refine xs_iload_n d198_33 rfl ?_
      refine xs_aload_n d198_34 rfl ?_
      refine xe_getc (j := 0) d198_35 ky198 fl166 fk12_5 rfl ?_
      refine xs_iload_n d198_38 rfl ?_
      refine xs_iconst (v := 2) d198_39 (by decide) ?_
      refine xs_iadd d198_40 ?_
      obtain ⟨hin11, hf⟩ := lk_g hf
      refine xe_iald d198_41 (by decide) ak50 hin11 ?_
      refine xs_aload_n d198_42 rfl ?_
      refine xe_getc (j := 0) d198_43 ky198 fl166 fk12_5 rfl ?_
      refine xs_iload_n d198_46 rfl ?_
      refine xs_iconst (v := 3) d198_47 (by decide) ?_
      refine xs_iadd d198_48 ?_
      obtain ⟨hin12, hf⟩ := lk_g hf
      refine xe_iald d198_49 (by decide) ak50 hin12 ?_
      obtain ⟨q15, hc14, hf⟩ := lk_b hf
      refine xe_callv1 (as := [xi v1, xi (h.2.2.2.1 50 0 (v3_3 + (2 : Int32)).toNatClampNeg), xi (h.2.2.2.1 50 0 (v3_3 + (3 : Int32)).toNatClampNeg)]) (st := []) (h2 := q15.2) (d2 := d - 1) d198_50 ky198 ml241 st183 (by decide) cn183 rfl na183 (Nat.le_of_ble_eq_true rfl) (by omega) (f_M_reckons_ok (by omega) hc14) ?_
      refine xs_lconst (v := 1) d198_53 (by decide) ?_
      refine xs_lcmp d198_54 ?_
      rcases lk_if hf with ⟨hc16, hf⟩ | ⟨hc16, hf⟩
      · refine xs_if_ne (tgt := 78) d198_55 (by decide) (fun _ => ?_) (fun hn => absurd hc16 hn)
        refine xs_pick [0, 1, 3] rfl ?_
        obtain ⟨x0, hf, ex0⟩ := lk_up hf
        exact f_M_summedBy_b58_ok hD hf (fun u0 u1 e => K0 u0 u1 (ex0.trans (congrArg Sum.inr e)))
      · refine xs_if_ne (tgt := 78) d198_55 (by decide) (fun hp => absurd hp hc16) (fun _ => ?_)
        obtain ⟨v2_17, ev2_17, hf⟩ := lk_let hf
        refine xe_iinc (v := v2_17) (b := 1) (ls2 := [(0, xr 12 (some 0)), (1, xi v1), (2, xi v2_17), (3, xi v3_3)]) d198_78 mx198 (by decide) rfl (by decide) ev2_17 rfl ?_
        refine xs_goto (tgt := 2) d198_81 (by decide) ?_
        refine xs_pick [0, 1, 2] rfl ?_
        exact K1 _ _ (Option.some.inj hf).symm
noncomputable def f_M_summedBy_l2 (v1 : Int32) (v2 : Int32) (h : xH) : Option (Int64 × xH) :=
  whl (fun s => f_M_summedBy_s2 v1 s.1 s.2) (v2, h)
theorem f_M_summedBy_l2_ok {g : xG} {l : Launch} {d : Nat} {v1 : Int32} {v2 : Int32} {h : xH} {o : (Int64 × xH)} {R : Option xV} {H' : xH} (hD : 2 ≤ d) (hf : f_M_summedBy_l2 v1 v2 h = some o) (K0 : ∀ (a : Int64) (h1 : xH), o = (a, h1) → R = some (xl a) ∧ H' = h1) : xEv g l d 198 2 [(0, xr 12 (some 0)), (1, xi v1), (2, xi v2)] [] h R H' := by
  obtain ⟨n, hn⟩ := whl_iff.mp hf
  clear hf
  induction n generalizing v2 h with
  | zero => cases hn
  | succ n ih =>
    obtain ⟨o2, hs, hn⟩ := lk_b (show (f_M_summedBy_s2 v1 v2 h).bind (fun o => Sum.elim (itn _ n) some o) = some o from hn)
    exact f_M_summedBy_s2_ok hD hs (fun u0 u1 e => ih (by rw [e] at hn; exact hn)) (fun u0 u1 e => K0 u0 u1 (by rw [e] at hn; exact (Option.some.inj hn).symm))
noncomputable def f_M_summedBy_e (v1 : Int32) (h : xH) : Option (Int64 × xH) :=
  f_M_summedBy_l2 v1 (0 : Int32) h
set_option maxHeartbeats 4000000 in
set_option maxRecDepth 100000 in
theorem f_M_summedBy_e_ok {g : xG} {l : Launch} {d : Nat} {v1 : Int32} {h : xH} {o : (Int64 × xH)} {R : Option xV} {H' : xH} (hD : 2 ≤ d) (hf : f_M_summedBy_e v1 h = some o) (K0 : ∀ (a : Int64) (h1 : xH), o = (a, h1) → R = some (xl a) ∧ H' = h1) : xEv g l d 198 0 [(0, xr 12 (some 0)), (1, xi v1)] [] h R H' := by
  unfold f_M_summedBy_e at hf
  refine xs_iconst (v := 0) d198_0 (by decide) ?_
  refine xe_istore_n (v := (0 : Int32)) (ls2 := [(0, xr 12 (some 0)), (1, xi v1), (2, xi (0 : Int32))]) d198_1 mx198 (by decide) rfl rfl ?_
  exact f_M_summedBy_l2_ok hD hf K0
noncomputable def f_M_summedBy (v1 : Int32) (h : xH) : Option (Int64 × xH) := f_M_summedBy_e v1 h
theorem f_M_summedBy_ok {g : xG} {l : Launch} {d : Nat} {v1 : Int32} {h : xH} {r : Int64} {h1 : xH} (hD : 2 ≤ d) (hf : f_M_summedBy v1 h = some (r, h1)) : xC g l d 198 [xr 12 (some 0), xi v1] h (some (xl r)) h1 :=
  xC_of2 (by decide) mx198 (Nat.le_of_ble_eq_true rfl) (f_M_summedBy_e_ok hD hf (fun _ _ e => by cases e; exact ⟨rfl, rfl⟩))
theorem d199_0 : decode (xcode 199) 0 = .ok (.iconst 0, 1) := by decide +kernel
theorem d199_1 : decode (xcode 199) 1 = .ok (.istore_n 2, 1) := by decide +kernel
theorem d199_2 : decode (xcode 199) 2 = .ok (.iconst 0, 1) := by decide +kernel
theorem d199_3 : decode (xcode 199) 3 = .ok (.istore_n 3, 1) := by decide +kernel
theorem d199_4 : decode (xcode 199) 4 = .ok (.iload_n 3, 1) := by decide +kernel
theorem d199_5 : decode (xcode 199) 5 = .ok (.aload_n 0, 1) := by decide +kernel
theorem d199_6 : decode (xcode 199) 6 = .ok (.getfield 39, 3) := by decide +kernel
theorem d199_9 : decode (xcode 199) 9 = .ok (.iconst 3, 1) := by decide +kernel
theorem d199_10 : decode (xcode 199) 10 = .ok (.iaload, 1) := by decide +kernel
theorem d199_11 : decode (xcode 199) 11 = .ok (.if_icmp .ge 41, 3) := by decide +kernel
theorem d199_14 : decode (xcode 199) 14 = .ok (.iload_n 2, 1) := by decide +kernel
theorem d199_15 : decode (xcode 199) 15 = .ok (.aload_n 0, 1) := by decide +kernel
theorem d199_16 : decode (xcode 199) 16 = .ok (.iload_n 3, 1) := by decide +kernel
theorem d199_17 : decode (xcode 199) 17 = .ok (.invokevirtual 293, 3) := by decide +kernel
theorem d199_20 : decode (xcode 199) 20 = .ok (.ifCond .eq 23, 3) := by decide +kernel
theorem d199_23 : decode (xcode 199) 23 = .ok (.aload_n 0, 1) := by decide +kernel
theorem d199_24 : decode (xcode 199) 24 = .ok (.getfield 39, 3) := by decide +kernel
theorem d199_27 : decode (xcode 199) 27 = .ok (.bipush 36, 2) := by decide +kernel
theorem d199_29 : decode (xcode 199) 29 = .ok (.iload_n 3, 1) := by decide +kernel
theorem d199_30 : decode (xcode 199) 30 = .ok (.iadd, 1) := by decide +kernel
theorem d199_31 : decode (xcode 199) 31 = .ok (.iaload, 1) := by decide +kernel
theorem d199_32 : decode (xcode 199) 32 = .ok (.iload_n 1, 1) := by decide +kernel
theorem d199_33 : decode (xcode 199) 33 = .ok (.invokestatic 301, 3) := by decide +kernel
theorem d199_36 : decode (xcode 199) 36 = .ok (.ifCond .eq 7, 3) := by decide +kernel
theorem d199_39 : decode (xcode 199) 39 = .ok (.iconst 1, 1) := by decide +kernel
theorem d199_40 : decode (xcode 199) 40 = .ok (.goto 4, 3) := by decide +kernel
theorem d199_43 : decode (xcode 199) 43 = .ok (.iconst 0, 1) := by decide +kernel
theorem d199_44 : decode (xcode 199) 44 = .ok (.iadd, 1) := by decide +kernel
theorem d199_45 : decode (xcode 199) 45 = .ok (.istore_n 2, 1) := by decide +kernel
theorem d199_46 : decode (xcode 199) 46 = .ok (.iinc 3 1, 3) := by decide +kernel
theorem d199_49 : decode (xcode 199) 49 = .ok (.goto (-45), 3) := by decide +kernel
theorem d199_52 : decode (xcode 199) 52 = .ok (.aload_n 0, 1) := by decide +kernel
theorem d199_53 : decode (xcode 199) 53 = .ok (.getfield 36, 3) := by decide +kernel
theorem d199_56 : decode (xcode 199) 56 = .ok (.iconst 0, 1) := by decide +kernel
theorem d199_57 : decode (xcode 199) 57 = .ok (.iload_n 1, 1) := by decide +kernel
theorem d199_58 : decode (xcode 199) 58 = .ok (.i2l, 1) := by decide +kernel
theorem d199_59 : decode (xcode 199) 59 = .ok (.lastore, 1) := by decide +kernel
theorem d199_60 : decode (xcode 199) 60 = .ok (.aload_n 0, 1) := by decide +kernel
theorem d199_61 : decode (xcode 199) 61 = .ok (.getfield 36, 3) := by decide +kernel
theorem d199_64 : decode (xcode 199) 64 = .ok (.iconst 1, 1) := by decide +kernel
theorem d199_65 : decode (xcode 199) 65 = .ok (.aload_n 0, 1) := by decide +kernel
theorem d199_66 : decode (xcode 199) 66 = .ok (.getfield 39, 3) := by decide +kernel
theorem d199_69 : decode (xcode 199) 69 = .ok (.bipush 28, 2) := by decide +kernel
theorem d199_71 : decode (xcode 199) 71 = .ok (.iload_n 1, 1) := by decide +kernel
theorem d199_72 : decode (xcode 199) 72 = .ok (.iadd, 1) := by decide +kernel
theorem d199_73 : decode (xcode 199) 73 = .ok (.iaload, 1) := by decide +kernel
theorem d199_74 : decode (xcode 199) 74 = .ok (.i2l, 1) := by decide +kernel
theorem d199_75 : decode (xcode 199) 75 = .ok (.lastore, 1) := by decide +kernel
theorem d199_76 : decode (xcode 199) 76 = .ok (.aload_n 0, 1) := by decide +kernel
theorem d199_77 : decode (xcode 199) 77 = .ok (.getfield 36, 3) := by decide +kernel
theorem d199_80 : decode (xcode 199) 80 = .ok (.iconst 2, 1) := by decide +kernel
theorem d199_81 : decode (xcode 199) 81 = .ok (.aload_n 0, 1) := by decide +kernel
theorem d199_82 : decode (xcode 199) 82 = .ok (.getfield 39, 3) := by decide +kernel
theorem d199_85 : decode (xcode 199) 85 = .ok (.bipush 44, 2) := by decide +kernel
theorem d199_87 : decode (xcode 199) 87 = .ok (.iload_n 1, 1) := by decide +kernel
theorem d199_88 : decode (xcode 199) 88 = .ok (.iadd, 1) := by decide +kernel
theorem d199_89 : decode (xcode 199) 89 = .ok (.iaload, 1) := by decide +kernel
theorem d199_90 : decode (xcode 199) 90 = .ok (.i2l, 1) := by decide +kernel
theorem d199_91 : decode (xcode 199) 91 = .ok (.lastore, 1) := by decide +kernel
theorem d199_92 : decode (xcode 199) 92 = .ok (.aload_n 0, 1) := by decide +kernel
theorem d199_93 : decode (xcode 199) 93 = .ok (.getfield 36, 3) := by decide +kernel
theorem d199_96 : decode (xcode 199) 96 = .ok (.iconst 3, 1) := by decide +kernel
theorem d199_97 : decode (xcode 199) 97 = .ok (.aload_n 0, 1) := by decide +kernel
theorem d199_98 : decode (xcode 199) 98 = .ok (.getfield 39, 3) := by decide +kernel
theorem d199_101 : decode (xcode 199) 101 = .ok (.bipush 52, 2) := by decide +kernel
theorem d199_103 : decode (xcode 199) 103 = .ok (.iload_n 1, 1) := by decide +kernel
theorem d199_104 : decode (xcode 199) 104 = .ok (.iadd, 1) := by decide +kernel
theorem d199_105 : decode (xcode 199) 105 = .ok (.iaload, 1) := by decide +kernel
theorem d199_106 : decode (xcode 199) 106 = .ok (.i2l, 1) := by decide +kernel
theorem d199_107 : decode (xcode 199) 107 = .ok (.lastore, 1) := by decide +kernel
theorem d199_108 : decode (xcode 199) 108 = .ok (.aload_n 0, 1) := by decide +kernel
theorem d199_109 : decode (xcode 199) 109 = .ok (.getfield 36, 3) := by decide +kernel
theorem d199_112 : decode (xcode 199) 112 = .ok (.iconst 4, 1) := by decide +kernel
theorem d199_113 : decode (xcode 199) 113 = .ok (.iload_n 2, 1) := by decide +kernel
theorem d199_114 : decode (xcode 199) 114 = .ok (.i2l, 1) := by decide +kernel
theorem d199_115 : decode (xcode 199) 115 = .ok (.lastore, 1) := by decide +kernel
theorem d199_116 : decode (xcode 199) 116 = .ok (.aload_n 0, 1) := by decide +kernel
theorem d199_117 : decode (xcode 199) 117 = .ok (.getfield 36, 3) := by decide +kernel
theorem d199_120 : decode (xcode 199) 120 = .ok (.iconst 5, 1) := by decide +kernel
theorem d199_121 : decode (xcode 199) 121 = .ok (.aload_n 0, 1) := by decide +kernel
theorem d199_122 : decode (xcode 199) 122 = .ok (.invokevirtual 295, 3) := by decide +kernel
theorem d199_125 : decode (xcode 199) 125 = .ok (.invokestatic 318, 3) := by decide +kernel
theorem d199_128 : decode (xcode 199) 128 = .ok (.i2l, 1) := by decide +kernel
theorem d199_129 : decode (xcode 199) 129 = .ok (.lastore, 1) := by decide +kernel
theorem d199_130 : decode (xcode 199) 130 = .ok (.aload_n 0, 1) := by decide +kernel
theorem d199_131 : decode (xcode 199) 131 = .ok (.getfield 36, 3) := by decide +kernel
theorem d199_134 : decode (xcode 199) 134 = .ok (.bipush 6, 2) := by decide +kernel
theorem d199_136 : decode (xcode 199) 136 = .ok (.aload_n 0, 1) := by decide +kernel
theorem d199_137 : decode (xcode 199) 137 = .ok (.invokevirtual 321, 3) := by decide +kernel
theorem d199_140 : decode (xcode 199) 140 = .ok (.invokestatic 318, 3) := by decide +kernel
theorem d199_143 : decode (xcode 199) 143 = .ok (.i2l, 1) := by decide +kernel
theorem d199_144 : decode (xcode 199) 144 = .ok (.lastore, 1) := by decide +kernel
theorem d199_145 : decode (xcode 199) 145 = .ok (.aload_n 0, 1) := by decide +kernel
theorem d199_146 : decode (xcode 199) 146 = .ok (.getfield 36, 3) := by decide +kernel
theorem d199_149 : decode (xcode 199) 149 = .ok (.bipush 7, 2) := by decide +kernel
theorem d199_151 : decode (xcode 199) 151 = .ok (.aload_n 0, 1) := by decide +kernel
theorem d199_152 : decode (xcode 199) 152 = .ok (.getfield 39, 3) := by decide +kernel
theorem d199_155 : decode (xcode 199) 155 = .ok (.iconst 1, 1) := by decide +kernel
theorem d199_156 : decode (xcode 199) 156 = .ok (.iaload, 1) := by decide +kernel
theorem d199_157 : decode (xcode 199) 157 = .ok (.aload_n 0, 1) := by decide +kernel
theorem d199_158 : decode (xcode 199) 158 = .ok (.getfield 39, 3) := by decide +kernel
theorem d199_161 : decode (xcode 199) 161 = .ok (.bipush 10, 2) := by decide +kernel
theorem d199_163 : decode (xcode 199) 163 = .ok (.iaload, 1) := by decide +kernel
theorem d199_164 : decode (xcode 199) 164 = .ok (.isub, 1) := by decide +kernel
theorem d199_165 : decode (xcode 199) 165 = .ok (.i2l, 1) := by decide +kernel
theorem d199_166 : decode (xcode 199) 166 = .ok (.lastore, 1) := by decide +kernel
theorem d199_167 : decode (xcode 199) 167 = .ok (.aload_n 0, 1) := by decide +kernel
theorem d199_168 : decode (xcode 199) 168 = .ok (.getfield 36, 3) := by decide +kernel
theorem d199_171 : decode (xcode 199) 171 = .ok (.bipush 8, 2) := by decide +kernel
theorem d199_173 : decode (xcode 199) 173 = .ok (.aload_n 0, 1) := by decide +kernel
theorem d199_174 : decode (xcode 199) 174 = .ok (.invokevirtual 324, 3) := by decide +kernel
theorem d199_177 : decode (xcode 199) 177 = .ok (.i2l, 1) := by decide +kernel
theorem d199_178 : decode (xcode 199) 178 = .ok (.lastore, 1) := by decide +kernel
theorem d199_179 : decode (xcode 199) 179 = .ok (.aload_n 0, 1) := by decide +kernel
theorem d199_180 : decode (xcode 199) 180 = .ok (.getfield 36, 3) := by decide +kernel
theorem d199_183 : decode (xcode 199) 183 = .ok (.bipush 9, 2) := by decide +kernel
theorem d199_185 : decode (xcode 199) 185 = .ok (.aload_n 0, 1) := by decide +kernel
theorem d199_186 : decode (xcode 199) 186 = .ok (.invokevirtual 327, 3) := by decide +kernel
theorem d199_189 : decode (xcode 199) 189 = .ok (.i2l, 1) := by decide +kernel
theorem d199_190 : decode (xcode 199) 190 = .ok (.lastore, 1) := by decide +kernel
theorem d199_191 : decode (xcode 199) 191 = .ok (.aload_n 0, 1) := by decide +kernel
theorem d199_192 : decode (xcode 199) 192 = .ok (.getfield 36, 3) := by decide +kernel
theorem d199_195 : decode (xcode 199) 195 = .ok (.bipush 10, 2) := by decide +kernel
theorem d199_197 : decode (xcode 199) 197 = .ok (.aload_n 0, 1) := by decide +kernel
theorem d199_198 : decode (xcode 199) 198 = .ok (.getfield 39, 3) := by decide +kernel
theorem d199_201 : decode (xcode 199) 201 = .ok (.bipush 10, 2) := by decide +kernel
theorem d199_203 : decode (xcode 199) 203 = .ok (.iaload, 1) := by decide +kernel
theorem d199_204 : decode (xcode 199) 204 = .ok (.i2l, 1) := by decide +kernel
theorem d199_205 : decode (xcode 199) 205 = .ok (.lastore, 1) := by decide +kernel
theorem d199_206 : decode (xcode 199) 206 = .ok (.aload_n 0, 1) := by decide +kernel
theorem d199_207 : decode (xcode 199) 207 = .ok (.getfield 36, 3) := by decide +kernel
theorem d199_210 : decode (xcode 199) 210 = .ok (.bipush 11, 2) := by decide +kernel
theorem d199_212 : decode (xcode 199) 212 = .ok (.aload_n 0, 1) := by decide +kernel
theorem d199_213 : decode (xcode 199) 213 = .ok (.getfield 39, 3) := by decide +kernel
theorem d199_216 : decode (xcode 199) 216 = .ok (.bipush 11, 2) := by decide +kernel
theorem d199_218 : decode (xcode 199) 218 = .ok (.iaload, 1) := by decide +kernel
theorem d199_219 : decode (xcode 199) 219 = .ok (.i2l, 1) := by decide +kernel
theorem d199_220 : decode (xcode 199) 220 = .ok (.lastore, 1) := by decide +kernel
theorem d199_221 : decode (xcode 199) 221 = .ok (.aload_n 0, 1) := by decide +kernel
theorem d199_222 : decode (xcode 199) 222 = .ok (.aload_n 0, 1) := by decide +kernel
theorem d199_223 : decode (xcode 199) 223 = .ok (.getfield 42, 3) := by decide +kernel
theorem d199_226 : decode (xcode 199) 226 = .ok (.invokevirtual 330, 3) := by decide +kernel
theorem d199_229 : decode (xcode 199) 229 = .ok (.lreturn, 1) := by decide +kernel
noncomputable def f_M_worthOf_b52 (v1 : Int32) (v2 : Int32) (h : xH) : Option (Int64 × xH) :=
  xlet (xsB h 55 0 (vp_updL (h.2.2.2.2 55 0) ((0 : Int32)).toNatClampNeg ((v1).toInt64))) fun h2 =>
  if xib ((28 : Int32) + v1) 101 then (
  xlet (xsB h2 55 0 (vp_updL (h2.2.2.2.2 55 0) ((1 : Int32)).toNatClampNeg ((h2.2.2.2.1 56 0 ((28 : Int32) + v1).toNatClampNeg).toInt64))) fun h4 =>
  if xib ((44 : Int32) + v1) 101 then (
  xlet (xsB h4 55 0 (vp_updL (h4.2.2.2.2 55 0) ((2 : Int32)).toNatClampNeg ((h4.2.2.2.1 56 0 ((44 : Int32) + v1).toNatClampNeg).toInt64))) fun h6 =>
  if xib ((52 : Int32) + v1) 101 then (
  xlet (xsB h6 55 0 (vp_updL (h6.2.2.2.2 55 0) ((3 : Int32)).toNatClampNeg ((h6.2.2.2.1 56 0 ((52 : Int32) + v1).toNatClampNeg).toInt64))) fun h8 =>
  xlet (xsB h8 55 0 (vp_updL (h8.2.2.2.2 55 0) ((4 : Int32)).toNatClampNeg ((v2).toInt64))) fun h9 =>
  (f_M_inside h9).bind fun r10 =>
  (f_M_bits r10 h9).bind fun r12 =>
  xlet (xsB h9 55 0 (vp_updL (h9.2.2.2.2 55 0) ((5 : Int32)).toNatClampNeg ((r12).toInt64))) fun h14 =>
  (f_M_looseOnes h14).bind fun r15 =>
  (f_M_bits r15 h14).bind fun r17 =>
  xlet (xsB h14 55 0 (vp_updL (h14.2.2.2.2 55 0) ((6 : Int32)).toNatClampNeg ((r17).toInt64))) fun h19 =>
  xlet (xsB h19 55 0 (vp_updL (h19.2.2.2.2 55 0) ((7 : Int32)).toNatClampNeg (((h19.2.2.2.1 56 0 ((1 : Int32)).toNatClampNeg) - (h19.2.2.2.1 56 0 ((10 : Int32)).toNatClampNeg)).toInt64))) fun h20 =>
  (f_M_loadNow h20).bind fun r21 =>
  xlet (xsB h20 55 0 (vp_updL (h20.2.2.2.2 55 0) ((8 : Int32)).toNatClampNeg ((r21).toInt64))) fun h23 =>
  (f_M_letBe h23).bind fun r24 =>
  xlet (xsB h23 55 0 (vp_updL (h23.2.2.2.2 55 0) ((9 : Int32)).toNatClampNeg ((r24).toInt64))) fun h26 =>
  xlet (xsB h26 55 0 (vp_updL (h26.2.2.2.2 55 0) ((10 : Int32)).toNatClampNeg ((h26.2.2.2.1 56 0 ((10 : Int32)).toNatClampNeg).toInt64))) fun h27 =>
  xlet (xsB h27 55 0 (vp_updL (h27.2.2.2.2 55 0) ((11 : Int32)).toNatClampNeg ((h27.2.2.2.1 56 0 ((11 : Int32)).toNatClampNeg).toInt64))) fun h28 =>
  (f_M_summedBy (h28.1 12 21 0) h28).bind fun q31 =>
  some ((q31.1, q31.2))) else none) else none) else none
set_option maxHeartbeats 4000000 in
set_option maxRecDepth 100000 in
theorem f_M_worthOf_b52_ok {g : xG} {l : Launch} {d : Nat} {v1 : Int32} {v2 : Int32} {h : xH} {o : (Int64 × xH)} {R : Option xV} {H' : xH} (hD : 5 ≤ d) (hf : f_M_worthOf_b52 v1 v2 h = some o) (K0 : ∀ (a : Int64) (h1 : xH), o = (a, h1) → R = some (xl a) ∧ H' = h1) : xEv g l d 199 52 [(0, xr 12 (some 0)), (1, xi v1), (2, xi v2)] [] h R H' := by
  unfold f_M_worthOf_b52 at hf
  refine xs_aload_n d199_52 rfl ?_
  refine xe_getc (j := 0) d199_53 ky199 fl180 fk12_19 rfl ?_
  refine xs_iconst (v := 0) d199_56 (by decide) ?_
  refine xs_iload_n d199_57 rfl ?_
  refine xs_i2l d199_58 ?_
  obtain ⟨h2, eh2, hf⟩ := lk_let hf
  refine xe_last d199_59 (by decide) ak55 (show xib (0 : Int32) 12 by decide)  eh2 ?_
  refine xs_aload_n d199_60 rfl ?_
  refine xe_getc (j := 0) d199_61 ky199 fl180 fk12_19 rfl ?_
  refine xs_iconst (v := 1) d199_64 (by decide) ?_
  refine xs_aload_n d199_65 rfl ?_
  refine xe_getc (j := 0) d199_66 ky199 fl181 fk12_20 rfl ?_
  refine xs_bipush (v := 28) d199_69 (by decide) ?_
  refine xs_iload_n d199_71 rfl ?_
  refine xs_iadd d199_72 ?_
  obtain ⟨hin3, hf⟩ := lk_g hf
  refine xe_iald d199_73 (by decide) ak56 hin3 ?_
  refine xs_i2l d199_74 ?_
  obtain ⟨h4, eh4, hf⟩ := lk_let hf
  refine xe_last d199_75 (by decide) ak55 (show xib (1 : Int32) 12 by decide)  eh4 ?_
  refine xs_aload_n d199_76 rfl ?_
  refine xe_getc (j := 0) d199_77 ky199 fl180 fk12_19 rfl ?_
  refine xs_iconst (v := 2) d199_80 (by decide) ?_
  refine xs_aload_n d199_81 rfl ?_
  refine xe_getc (j := 0) d199_82 ky199 fl181 fk12_20 rfl ?_
  refine xs_bipush (v := 44) d199_85 (by decide) ?_
  refine xs_iload_n d199_87 rfl ?_
  refine xs_iadd d199_88 ?_
  obtain ⟨hin5, hf⟩ := lk_g hf
  refine xe_iald d199_89 (by decide) ak56 hin5 ?_
  refine xs_i2l d199_90 ?_
  obtain ⟨h6, eh6, hf⟩ := lk_let hf
  refine xe_last d199_91 (by decide) ak55 (show xib (2 : Int32) 12 by decide)  eh6 ?_
  refine xs_aload_n d199_92 rfl ?_
  refine xe_getc (j := 0) d199_93 ky199 fl180 fk12_19 rfl ?_
  refine xs_iconst (v := 3) d199_96 (by decide) ?_
  refine xs_aload_n d199_97 rfl ?_
  refine xe_getc (j := 0) d199_98 ky199 fl181 fk12_20 rfl ?_
  refine xs_bipush (v := 52) d199_101 (by decide) ?_
  refine xs_iload_n d199_103 rfl ?_
  refine xs_iadd d199_104 ?_
  obtain ⟨hin7, hf⟩ := lk_g hf
  refine xe_iald d199_105 (by decide) ak56 hin7 ?_
  refine xs_i2l d199_106 ?_
  obtain ⟨h8, eh8, hf⟩ := lk_let hf
  refine xe_last d199_107 (by decide) ak55 (show xib (3 : Int32) 12 by decide)  eh8 ?_
  refine xs_aload_n d199_108 rfl ?_
  refine xe_getc (j := 0) d199_109 ky199 fl180 fk12_19 rfl ?_
  refine xs_iconst (v := 4) d199_112 (by decide) ?_
  refine xs_iload_n d199_113 rfl ?_
  refine xs_i2l d199_114 ?_
  obtain ⟨h9, eh9, hf⟩ := lk_let hf
  refine xe_last d199_115 (by decide) ak55 (show xib (4 : Int32) 12 by decide)  eh9 ?_
  refine xs_aload_n d199_116 rfl ?_
  refine xe_getc (j := 0) d199_117 ky199 fl180 fk12_19 rfl ?_
  refine xs_iconst (v := 5) d199_120 (by decide) ?_
  refine xs_aload_n d199_121 rfl ?_
  obtain ⟨r10, hc11, hf⟩ := lk_b hf
  refine xe_callv1 (as := []) (st := [xi (5 : Int32), xr 55 (some 0)]) (h2 := h9) (d2 := d - 1) d199_122 ky199 ml231 st187 (by decide) cn187 rfl na187 (Nat.le_of_ble_eq_true rfl) (by omega) (f_M_inside_ok (by omega) hc11) ?_
  obtain ⟨r12, hc13, hf⟩ := lk_b hf
  refine xe_calls1 (as := [xi r10]) (st := [xi (5 : Int32), xr 55 (some 0)]) (h2 := h9) (d2 := d - 1) d199_125 ky199 ml234 st141 rfl na141 (Nat.le_of_ble_eq_true rfl) (by omega) (f_M_bits_ok (by omega) hc13) ?_
  refine xs_i2l d199_128 ?_
  obtain ⟨h14, eh14, hf⟩ := lk_let hf
  refine xe_last d199_129 (by decide) ak55 (show xib (5 : Int32) 12 by decide)  eh14 ?_
  refine xs_aload_n d199_130 rfl ?_
  refine xe_getc (j := 0) d199_131 ky199 fl180 fk12_19 rfl ?_
  refine xs_bipush (v := 6) d199_134 (by decide) ?_
  refine xs_aload_n d199_136 rfl ?_
  obtain ⟨r15, hc16, hf⟩ := lk_b hf
  refine xe_callv1 (as := []) (st := [xi (6 : Int32), xr 55 (some 0)]) (h2 := h14) (d2 := d - 1) d199_137 ky199 ml235 st189 (by decide) cn189 rfl na189 (Nat.le_of_ble_eq_true rfl) (by omega) (f_M_looseOnes_ok (by omega) hc16) ?_
  obtain ⟨r17, hc18, hf⟩ := lk_b hf
  refine xe_calls1 (as := [xi r15]) (st := [xi (6 : Int32), xr 55 (some 0)]) (h2 := h14) (d2 := d - 1) d199_140 ky199 ml234 st141 rfl na141 (Nat.le_of_ble_eq_true rfl) (by omega) (f_M_bits_ok (by omega) hc18) ?_
  refine xs_i2l d199_143 ?_
  obtain ⟨h19, eh19, hf⟩ := lk_let hf
  refine xe_last d199_144 (by decide) ak55 (show xib (6 : Int32) 12 by decide)  eh19 ?_
  refine xs_aload_n d199_145 rfl ?_
  refine xe_getc (j := 0) d199_146 ky199 fl180 fk12_19 rfl ?_
  refine xs_bipush (v := 7) d199_149 (by decide) ?_
  refine xs_aload_n d199_151 rfl ?_
  refine xe_getc (j := 0) d199_152 ky199 fl181 fk12_20 rfl ?_
  refine xs_iconst (v := 1) d199_155 (by decide) ?_
  refine xe_iald d199_156 (by decide) ak56 (show xib (1 : Int32) 101 by decide) ?_
  refine xs_aload_n d199_157 rfl ?_
  refine xe_getc (j := 0) d199_158 ky199 fl181 fk12_20 rfl ?_
  refine xs_bipush (v := 10) d199_161 (by decide) ?_
  refine xe_iald d199_163 (by decide) ak56 (show xib (10 : Int32) 101 by decide) ?_
  refine xs_isub d199_164 ?_
  refine xs_i2l d199_165 ?_
  obtain ⟨h20, eh20, hf⟩ := lk_let hf
  refine xe_last d199_166 (by decide) ak55 (show xib (7 : Int32) 12 by decide)  eh20 ?_
  refine xs_aload_n d199_167 rfl ?_
  refine xe_getc (j := 0) d199_168 ky199 fl180 fk12_19 rfl ?_
  refine xs_bipush (v := 8) d199_171 (by decide) ?_
  refine xs_aload_n d199_173 rfl ?_
  obtain ⟨r21, hc22, hf⟩ := lk_b hf
  refine xe_callv1 (as := []) (st := [xi (8 : Int32), xr 55 (some 0)]) (h2 := h20) (d2 := d - 1) d199_174 ky199 ml236 st193 (by decide) cn193 rfl na193 (Nat.le_of_ble_eq_true rfl) (by omega) (f_M_loadNow_ok (by omega) hc22) ?_
  refine xs_i2l d199_177 ?_
  obtain ⟨h23, eh23, hf⟩ := lk_let hf
  refine xe_last d199_178 (by decide) ak55 (show xib (8 : Int32) 12 by decide)  eh23 ?_
  refine xs_aload_n d199_179 rfl ?_
  refine xe_getc (j := 0) d199_180 ky199 fl180 fk12_19 rfl ?_
  refine xs_bipush (v := 9) d199_183 (by decide) ?_
  refine xs_aload_n d199_185 rfl ?_
  obtain ⟨r24, hc25, hf⟩ := lk_b hf
  refine xe_callv1 (as := []) (st := [xi (9 : Int32), xr 55 (some 0)]) (h2 := h23) (d2 := d - 1) d199_186 ky199 ml238 st192 (by decide) cn192 rfl na192 (Nat.le_of_ble_eq_true rfl) (by omega) (f_M_letBe_ok (by omega) hc25) ?_
  refine xs_i2l d199_189 ?_
  obtain ⟨h26, eh26, hf⟩ := lk_let hf
  refine xe_last d199_190 (by decide) ak55 (show xib (9 : Int32) 12 by decide)  eh26 ?_
  refine xs_aload_n d199_191 rfl ?_
  refine xe_getc (j := 0) d199_192 ky199 fl180 fk12_19 rfl ?_
  refine xs_bipush (v := 10) d199_195 (by decide) ?_
  refine xs_aload_n d199_197 rfl ?_
  refine xe_getc (j := 0) d199_198 ky199 fl181 fk12_20 rfl ?_
  refine xs_bipush (v := 10) d199_201 (by decide) ?_
  refine xe_iald d199_203 (by decide) ak56 (show xib (10 : Int32) 101 by decide) ?_
  refine xs_i2l d199_204 ?_
  obtain ⟨h27, eh27, hf⟩ := lk_let hf
  refine xe_last d199_205 (by decide) ak55 (show xib (10 : Int32) 12 by decide)  eh27 ?_
  refine xs_aload_n d199_206 rfl ?_
  refine xe_getc (j := 0) d199_207 ky199 fl180 fk12_19 rfl ?_
  refine xs_bipush (v := 11) d199_210 (by decide) ?_
  refine xs_aload_n d199_212 rfl ?_
  refine xe_getc (j := 0) d199_213 ky199 fl181 fk12_20 rfl ?_
  refine xs_bipush (v := 11) d199_216 (by decide) ?_
  refine xe_iald d199_218 (by decide) ak56 (show xib (11 : Int32) 101 by decide) ?_
  refine xs_i2l d199_219 ?_
  obtain ⟨h28, eh28, hf⟩ := lk_let hf
  refine xe_last d199_220 (by decide) ak55 (show xib (11 : Int32) 12 by decide)  eh28 ?_
  refine xs_aload_n d199_221 rfl ?_
  refine xs_aload_n d199_222 rfl ?_
  refine xe_geti d199_223 ky199 fl182 fk12_21 ?_
  obtain ⟨q31, hc30, hf⟩ := lk_b hf
  refine xe_callv1 (as := [xi (h28.1 12 21 0)]) (st := []) (h2 := q31.2) (d2 := d - 1) d199_226 ky199 ml240 st198 (by decide) cn198 rfl na198 (Nat.le_of_ble_eq_true rfl) (by omega) (f_M_summedBy_ok (by omega) hc30) ?_
  obtain ⟨eR, eH⟩ := K0 _ _ (Option.some.inj hf).symm
  subst eR; subst eH
  exact xs_lret d199_229 rt199
noncomputable def f_M_worthOf_b44 (v1 : Int32) (v3 : Int32) (t0 : Int32) (t1 : Int32) (h : xH) : Option ((Int32 × Int32) ⊕ (Int64 × xH)) :=
  xlet (t1 + t0) fun v2_35 =>
  xlet (v3 + (1 : Int32)) fun v3_36 =>
  some (Sum.inl (v2_35, v3_36))
set_option maxHeartbeats 4000000 in
set_option maxRecDepth 100000 in
theorem f_M_worthOf_b44_ok {g : xG} {l : Launch} {d : Nat} {v1 : Int32} {v3 : Int32} {t0 : Int32} {t1 : Int32} {h : xH} {o : ((Int32 × Int32) ⊕ (Int64 × xH))} {R : Option xV} {H' : xH} (hD : 5 ≤ d) (hf : f_M_worthOf_b44 v1 v3 t0 t1 h = some o) (K1 : ∀ (w2 : Int32) (w3 : Int32), o = Sum.inl (w2, w3) → xEv g l d 199 4 [(0, xr 12 (some 0)), (1, xi v1), (2, xi w2), (3, xi w3)] [] h R H') (K0 : ∀ (a : Int64) (h1 : xH), o = Sum.inr ((a, h1)) → R = some (xl a) ∧ H' = h1) : xEv g l d 199 44 [(0, xr 12 (some 0)), (1, xi v1), (3, xi v3)] [xi t0, xi t1] h R H' := by
  unfold f_M_worthOf_b44 at hf
  refine xs_iadd d199_44 ?_
  obtain ⟨v2_35, ev2_35, hf⟩ := lk_let hf
  refine xe_istore_n (v := v2_35) (ls2 := [(0, xr 12 (some 0)), (1, xi v1), (2, xi v2_35), (3, xi v3)]) d199_45 mx199 (by decide) ev2_35 rfl ?_
  obtain ⟨v3_36, ev3_36, hf⟩ := lk_let hf
  refine xe_iinc (v := v3_36) (b := 1) (ls2 := [(0, xr 12 (some 0)), (1, xi v1), (2, xi v2_35), (3, xi v3_36)]) d199_46 mx199 (by decide) rfl (by decide) ev3_36 rfl ?_
  refine xs_goto (tgt := 4) d199_49 (by decide) ?_
  exact K1 _ _ (Option.some.inj hf).symm
noncomputable def f_M_worthOf_b43 (v1 : Int32) (v3 : Int32) (t0 : Int32) (h : xH) : Option ((Int32 × Int32) ⊕ (Int64 × xH)) :=
  f_M_worthOf_b44 v1 v3 (0 : Int32) t0 h
set_option maxHeartbeats 4000000 in
set_option maxRecDepth 100000 in
theorem f_M_worthOf_b43_ok {g : xG} {l : Launch} {d : Nat} {v1 : Int32} {v3 : Int32} {t0 : Int32} {h : xH} {o : ((Int32 × Int32) ⊕ (Int64 × xH))} {R : Option xV} {H' : xH} (hD : 5 ≤ d) (hf : f_M_worthOf_b43 v1 v3 t0 h = some o) (K1 : ∀ (w2 : Int32) (w3 : Int32), o = Sum.inl (w2, w3) → xEv g l d 199 4 [(0, xr 12 (some 0)), (1, xi v1), (2, xi w2), (3, xi w3)] [] h R H') (K0 : ∀ (a : Int64) (h1 : xH), o = Sum.inr ((a, h1)) → R = some (xl a) ∧ H' = h1) : xEv g l d 199 43 [(0, xr 12 (some 0)), (1, xi v1), (3, xi v3)] [xi t0] h R H' := by
  unfold f_M_worthOf_b43 at hf
  refine xs_iconst (v := 0) d199_43 (by decide) ?_
  exact f_M_worthOf_b44_ok hD hf K1 K0
noncomputable def f_M_worthOf_s4 (v1 : Int32) (v2 : Int32) (v3 : Int32) (h : xH) : Option ((Int32 × Int32) ⊕ (Int64 × xH)) :=
  if (h.2.2.2.1 56 0 ((3 : Int32)).toNatClampNeg) ≤ v3 then (
  xup (f_M_worthOf_b52 v1 v2 h)) else (
  (f_M_isInside_i v3 h).bind fun r32 =>
  if r32 = (0 : Int32) then (
  f_M_worthOf_b43 v1 v3 v2 h) else (
  if xib ((36 : Int32) + v3) 101 then (
  (f_M_isOf (h.2.2.2.1 56 0 ((36 : Int32) + v3).toNatClampNeg) v1 h).bind fun r38 =>
  if r38 = (0 : Int32) then (
  f_M_worthOf_b43 v1 v3 v2 h) else (
  f_M_worthOf_b44 v1 v3 (1 : Int32) v2 h)) else none))
set_option maxHeartbeats 4000000 in
set_option maxRecDepth 100000 in
theorem f_M_worthOf_s4_ok {g : xG} {l : Launch} {d : Nat} {v1 : Int32} {v2 : Int32} {v3 : Int32} {h : xH} {o : ((Int32 × Int32) ⊕ (Int64 × xH))} {R : Option xV} {H' : xH} (hD : 5 ≤ d) (hf : f_M_worthOf_s4 v1 v2 v3 h = some o) (K1 : ∀ (w2 : Int32) (w3 : Int32), o = Sum.inl (w2, w3) → xEv g l d 199 4 [(0, xr 12 (some 0)), (1, xi v1), (2, xi w2), (3, xi w3)] [] h R H') (K0 : ∀ (a : Int64) (h1 : xH), o = Sum.inr ((a, h1)) → R = some (xl a) ∧ H' = h1) : xEv g l d 199 4 [(0, xr 12 (some 0)), (1, xi v1), (2, xi v2), (3, xi v3)] [] h R H' := by
  unfold f_M_worthOf_s4 at hf
  refine xs_iload_n d199_4 rfl ?_
  refine xs_aload_n d199_5 rfl ?_
  refine xe_getc (j := 0) d199_6 ky199 fl181 fk12_20 rfl ?_
  refine xs_iconst (v := 3) d199_9 (by decide) ?_
  refine xe_iald d199_10 (by decide) ak56 (show xib (3 : Int32) 101 by decide) ?_
  rcases lk_if hf with ⟨hc1, hf⟩ | ⟨hc1, hf⟩
  · refine xs_icmp_ge (tgt := 52) d199_11 (by decide) (fun _ => ?_) (fun hn => absurd hc1 hn)
    refine xs_pick [0, 1, 2] rfl ?_
    obtain ⟨x0, hf, ex0⟩ := lk_up hf
    exact f_M_worthOf_b52_ok hD hf (fun u0 u1 e => K0 u0 u1 (ex0.trans (congrArg Sum.inr e)))
  · refine xs_icmp_ge (tgt := 52) d199_11 (by decide) (fun hp => absurd hp hc1) (fun _ => ?_)
    refine xs_iload_n d199_14 rfl ?_
    refine xs_aload_n d199_15 rfl ?_
    refine xs_iload_n d199_16 rfl ?_
    obtain ⟨r32, hc33, hf⟩ := lk_b hf
    refine xe_callv1 (as := [xi v3]) (st := [xi v2]) (h2 := h) (d2 := d - 1) d199_17 ky199 ml230 st186 (by decide) cn186 rfl na186 (Nat.le_of_ble_eq_true rfl) (by omega) (f_M_isInside_i_ok (by omega) hc33) ?_
    rcases lk_if hf with ⟨hc34, hf⟩ | ⟨hc34, hf⟩
    · refine xs_if_eq (tgt := 43) d199_20 (by decide) (fun _ => ?_) (fun hn => absurd hc34 hn)
      refine xs_pick [0, 1, 3] rfl ?_
      exact f_M_worthOf_b43_ok hD hf K1 K0
    · refine xs_if_eq (tgt := 43) d199_20 (by decide) (fun hp => absurd hp hc34) (fun _ => ?_)
      refine xs_aload_n d199_23 rfl ?_
      refine xe_getc (j := 0) d199_24 ky199 fl181 fk12_20 rfl ?_
      refine xs_bipush (v := 36) d199_27 (by decide) ?_
      refine xs_iload_n d199_29 rfl ?_
      refine xs_iadd d199_30 ?_
      obtain ⟨hin37, hf⟩ := lk_g hf
      refine xe_iald d199_31 (by decide) ak56 hin37 ?_
      refine xs_iload_n d199_32 rfl ?_
      obtain ⟨r38, hc39, hf⟩ := lk_b hf
      refine xe_calls1 (as := [xi (h.2.2.2.1 56 0 ((36 : Int32) + v3).toNatClampNeg), xi v1]) (st := [xi v2]) (h2 := h) (d2 := d - 1) d199_33 ky199 ml233 st140 rfl na140 (Nat.le_of_ble_eq_true rfl) (by omega) (f_M_isOf_ok (by omega) hc39) ?_
      rcases lk_if hf with ⟨hc40, hf⟩ | ⟨hc40, hf⟩
      · refine xs_if_eq (tgt := 43) d199_36 (by decide) (fun _ => ?_) (fun hn => absurd hc40 hn)
        refine xs_pick [0, 1, 3] rfl ?_
        exact f_M_worthOf_b43_ok hD hf K1 K0
      · refine xs_if_eq (tgt := 43) d199_36 (by decide) (fun hp => absurd hp hc40) (fun _ => ?_)
        refine xs_iconst (v := 1) d199_39 (by decide) ?_
        refine xs_goto (tgt := 44) d199_40 (by decide) ?_
        refine xs_pick [0, 1, 3] rfl ?_
        exact f_M_worthOf_b44_ok hD hf K1 K0
noncomputable def f_M_worthOf_l4 (v1 : Int32) (v2 : Int32) (v3 : Int32) (h : xH) : Option (Int64 × xH) :=
  whl (fun s => f_M_worthOf_s4 v1 s.1 s.2 h) (v2, v3)
theorem f_M_worthOf_l4_ok {g : xG} {l : Launch} {d : Nat} {v1 : Int32} {v2 : Int32} {v3 : Int32} {h : xH} {o : (Int64 × xH)} {R : Option xV} {H' : xH} (hD : 5 ≤ d) (hf : f_M_worthOf_l4 v1 v2 v3 h = some o) (K0 : ∀ (a : Int64) (h1 : xH), o = (a, h1) → R = some (xl a) ∧ H' = h1) : xEv g l d 199 4 [(0, xr 12 (some 0)), (1, xi v1), (2, xi v2), (3, xi v3)] [] h R H' := by
  obtain ⟨n, hn⟩ := whl_iff.mp hf
  clear hf
  induction n generalizing v2 v3 with
  | zero => cases hn
  | succ n ih =>
    obtain ⟨o2, hs, hn⟩ := lk_b (show (f_M_worthOf_s4 v1 v2 v3 h).bind (fun o => Sum.elim (itn _ n) some o) = some o from hn)
    exact f_M_worthOf_s4_ok hD hs (fun u0 u1 e => ih (by rw [e] at hn; exact hn)) (fun u0 u1 e => K0 u0 u1 (by rw [e] at hn; exact (Option.some.inj hn).symm))
noncomputable def f_M_worthOf_e (v1 : Int32) (h : xH) : Option (Int64 × xH) :=
  f_M_worthOf_l4 v1 (0 : Int32) (0 : Int32) h
set_option maxHeartbeats 4000000 in
set_option maxRecDepth 100000 in
theorem f_M_worthOf_e_ok {g : xG} {l : Launch} {d : Nat} {v1 : Int32} {h : xH} {o : (Int64 × xH)} {R : Option xV} {H' : xH} (hD : 5 ≤ d) (hf : f_M_worthOf_e v1 h = some o) (K0 : ∀ (a : Int64) (h1 : xH), o = (a, h1) → R = some (xl a) ∧ H' = h1) : xEv g l d 199 0 [(0, xr 12 (some 0)), (1, xi v1)] [] h R H' := by
  unfold f_M_worthOf_e at hf
  refine xs_iconst (v := 0) d199_0 (by decide) ?_
  refine xe_istore_n (v := (0 : Int32)) (ls2 := [(0, xr 12 (some 0)), (1, xi v1), (2, xi (0 : Int32))]) d199_1 mx199 (by decide) rfl rfl ?_
  refine xs_iconst (v := 0) d199_2 (by decide) ?_
  refine xe_istore_n (v := (0 : Int32)) (ls2 := [(0, xr 12 (some 0)), (1, xi v1), (2, xi (0 : Int32)), (3, xi (0 : Int32))]) d199_3 mx199 (by decide) rfl rfl ?_
  exact f_M_worthOf_l4_ok hD hf K0
noncomputable def f_M_worthOf (v1 : Int32) (h : xH) : Option (Int64 × xH) := f_M_worthOf_e v1 h
theorem f_M_worthOf_ok {g : xG} {l : Launch} {d : Nat} {v1 : Int32} {h : xH} {r : Int64} {h1 : xH} (hD : 5 ≤ d) (hf : f_M_worthOf v1 h = some (r, h1)) : xC g l d 199 [xr 12 (some 0), xi v1] h (some (xl r)) h1 :=
  xC_of2 (by decide) mx199 (Nat.le_of_ble_eq_true rfl) (f_M_worthOf_e_ok hD hf (fun _ _ e => by cases e; exact ⟨rfl, rfl⟩))
theorem d200_0 : decode (xcode 200) 0 = .ok (.iconst (-1), 1) := by decide +kernel
theorem d200_1 : decode (xcode 200) 1 = .ok (.istore_n 1, 1) := by decide +kernel
theorem d200_2 : decode (xcode 200) 2 = .ok (.lconst 0, 1) := by decide +kernel
theorem d200_3 : decode (xcode 200) 3 = .ok (.lstore_n 2, 1) := by decide +kernel
theorem d200_4 : decode (xcode 200) 4 = .ok (.iconst 0, 1) := by decide +kernel
theorem d200_5 : decode (xcode 200) 5 = .ok (.istore 4, 2) := by decide +kernel
theorem d200_7 : decode (xcode 200) 7 = .ok (.iload 4, 2) := by decide +kernel
theorem d200_9 : decode (xcode 200) 9 = .ok (.aload_n 0, 1) := by decide +kernel
theorem d200_10 : decode (xcode 200) 10 = .ok (.getfield 39, 3) := by decide +kernel
theorem d200_13 : decode (xcode 200) 13 = .ok (.iconst 3, 1) := by decide +kernel
theorem d200_14 : decode (xcode 200) 14 = .ok (.iaload, 1) := by decide +kernel
theorem d200_15 : decode (xcode 200) 15 = .ok (.if_icmp .ge 56, 3) := by decide +kernel
theorem d200_18 : decode (xcode 200) 18 = .ok (.aload_n 0, 1) := by decide +kernel
theorem d200_19 : decode (xcode 200) 19 = .ok (.iload 4, 2) := by decide +kernel
theorem d200_21 : decode (xcode 200) 21 = .ok (.invokevirtual 298, 3) := by decide +kernel
theorem d200_24 : decode (xcode 200) 24 = .ok (.ifCond .ne 6, 3) := by decide +kernel
theorem d200_27 : decode (xcode 200) 27 = .ok (.goto 38, 3) := by decide +kernel
theorem d200_30 : decode (xcode 200) 30 = .ok (.aload_n 0, 1) := by decide +kernel
theorem d200_31 : decode (xcode 200) 31 = .ok (.getfield 42, 3) := by decide +kernel
theorem d200_34 : decode (xcode 200) 34 = .ok (.ifCond .ge 7, 3) := by decide +kernel
theorem d200_37 : decode (xcode 200) 37 = .ok (.lconst 1, 1) := by decide +kernel
theorem d200_38 : decode (xcode 200) 38 = .ok (.goto 9, 3) := by decide +kernel
theorem d200_41 : decode (xcode 200) 41 = .ok (.aload_n 0, 1) := by decide +kernel
theorem d200_42 : decode (xcode 200) 42 = .ok (.iload 4, 2) := by decide +kernel
theorem d200_44 : decode (xcode 200) 44 = .ok (.invokevirtual 334, 3) := by decide +kernel
theorem d200_47 : decode (xcode 200) 47 = .ok (.lstore 5, 2) := by decide +kernel
theorem d200_49 : decode (xcode 200) 49 = .ok (.lload 5, 2) := by decide +kernel
theorem d200_51 : decode (xcode 200) 51 = .ok (.lload_n 2, 1) := by decide +kernel
theorem d200_52 : decode (xcode 200) 52 = .ok (.lcmp, 1) := by decide +kernel
theorem d200_53 : decode (xcode 200) 53 = .ok (.ifCond .gt 6, 3) := by decide +kernel
theorem d200_56 : decode (xcode 200) 56 = .ok (.goto 9, 3) := by decide +kernel
theorem d200_59 : decode (xcode 200) 59 = .ok (.iload 4, 2) := by decide +kernel
theorem d200_61 : decode (xcode 200) 61 = .ok (.istore_n 1, 1) := by decide +kernel
theorem d200_62 : decode (xcode 200) 62 = .ok (.lload 5, 2) := by decide +kernel
theorem d200_64 : decode (xcode 200) 64 = .ok (.lstore_n 2, 1) := by decide +kernel
theorem d200_65 : decode (xcode 200) 65 = .ok (.iinc 4 1, 3) := by decide +kernel
theorem d200_68 : decode (xcode 200) 68 = .ok (.goto (-61), 3) := by decide +kernel
theorem d200_71 : decode (xcode 200) 71 = .ok (.iload_n 1, 1) := by decide +kernel
theorem d200_72 : decode (xcode 200) 72 = .ok (.ireturn, 1) := by decide +kernel
noncomputable def f_M_choice_b65 (v1 : Int32) (v2 : Int64) (v4 : Int32) (h : xH) : Option ((Int32 × Int64 × Int32 × xH) ⊕ (Int32 × xH)) :=
  xlet (v4 + (1 : Int32)) fun v4_5 =>
  some (Sum.inl (v1, v2, v4_5, h))
set_option maxHeartbeats 4000000 in
set_option maxRecDepth 100000 in
theorem f_M_choice_b65_ok {g : xG} {l : Launch} {d : Nat} {v1 : Int32} {v2 : Int64} {v4 : Int32} {h : xH} {o : ((Int32 × Int64 × Int32 × xH) ⊕ (Int32 × xH))} {R : Option xV} {H' : xH} (hD : 6 ≤ d) (hf : f_M_choice_b65 v1 v2 v4 h = some o) (K1 : ∀ (w1 : Int32) (w2 : Int64) (w4 : Int32) (h1 : xH), o = Sum.inl (w1, w2, w4, h1) → xEv g l d 200 7 [(0, xr 12 (some 0)), (1, xi w1), (2, xl w2), (4, xi w4)] [] h1 R H') (K0 : ∀ (a : Int32) (h1 : xH), o = Sum.inr ((a, h1)) → R = some (xi a) ∧ H' = h1) : xEv g l d 200 65 [(0, xr 12 (some 0)), (1, xi v1), (2, xl v2), (4, xi v4)] [] h R H' := by
  unfold f_M_choice_b65 at hf
  obtain ⟨v4_5, ev4_5, hf⟩ := lk_let hf
  refine xe_iinc (v := v4_5) (b := 1) (ls2 := [(0, xr 12 (some 0)), (1, xi v1), (2, xl v2), (4, xi v4_5)]) d200_65 mx200 (by decide) rfl (by decide) ev4_5 rfl ?_
  refine xs_goto (tgt := 7) d200_68 (by decide) ?_
  exact K1 _ _ _ _ (Option.some.inj hf).symm
noncomputable def f_M_choice_b47 (v1 : Int32) (v2 : Int64) (v4 : Int32) (t0 : Int64) (h : xH) : Option ((Int32 × Int64 × Int32 × xH) ⊕ (Int32 × xH)) :=
  if (0 : Int32) < (lg_cmp t0 v2) then (
  f_M_choice_b65 v4 t0 v4 h) else (
  f_M_choice_b65 v1 v2 v4 h)
set_option maxHeartbeats 4000000 in
set_option maxRecDepth 100000 in
theorem f_M_choice_b47_ok {g : xG} {l : Launch} {d : Nat} {v1 : Int32} {v2 : Int64} {v4 : Int32} {t0 : Int64} {h : xH} {o : ((Int32 × Int64 × Int32 × xH) ⊕ (Int32 × xH))} {R : Option xV} {H' : xH} (hD : 6 ≤ d) (hf : f_M_choice_b47 v1 v2 v4 t0 h = some o) (K1 : ∀ (w1 : Int32) (w2 : Int64) (w4 : Int32) (h1 : xH), o = Sum.inl (w1, w2, w4, h1) → xEv g l d 200 7 [(0, xr 12 (some 0)), (1, xi w1), (2, xl w2), (4, xi w4)] [] h1 R H') (K0 : ∀ (a : Int32) (h1 : xH), o = Sum.inr ((a, h1)) → R = some (xi a) ∧ H' = h1) : xEv g l d 200 47 [(0, xr 12 (some 0)), (1, xi v1), (2, xl v2), (4, xi v4)] [xl t0] h R H' := by
  unfold f_M_choice_b47 at hf
  refine xe_lstore (v := t0) (ls2 := [(0, xr 12 (some 0)), (1, xi v1), (2, xl v2), (4, xi v4), (5, xl t0)]) d200_47 mx200 (by decide) rfl rfl ?_
  refine xs_lload d200_49 rfl ?_
  refine xs_lload_n d200_51 rfl ?_
  refine xs_lcmp d200_52 ?_
  rcases lk_if hf with ⟨hc10, hf⟩ | ⟨hc10, hf⟩
  · refine xs_if_gt (tgt := 59) d200_53 (by decide) (fun _ => ?_) (fun hn => absurd hc10 hn)
    refine xs_iload d200_59 rfl ?_
    refine xe_istore_n (v := v4) (ls2 := [(0, xr 12 (some 0)), (1, xi v4), (2, xl v2), (4, xi v4), (5, xl t0)]) d200_61 mx200 (by decide) rfl rfl ?_
    refine xs_lload d200_62 rfl ?_
    refine xe_lstore_n (v := t0) (ls2 := [(0, xr 12 (some 0)), (1, xi v4), (2, xl t0), (4, xi v4), (5, xl t0)]) d200_64 mx200 (by decide) rfl rfl ?_
    refine xs_pick [0, 1, 2, 3] rfl ?_
    exact f_M_choice_b65_ok hD hf K1 K0
  · refine xs_if_gt (tgt := 59) d200_53 (by decide) (fun hp => absurd hp hc10) (fun _ => ?_)
    refine xs_goto (tgt := 65) d200_56 (by decide) ?_
    refine xs_pick [0, 1, 2, 3] rfl ?_
    exact f_M_choice_b65_ok hD hf K1 K0
noncomputable def f_M_choice_s7 (v1 : Int32) (v2 : Int64) (v4 : Int32) (h : xH) : Option ((Int32 × Int64 × Int32 × xH) ⊕ (Int32 × xH)) :=
  if (h.2.2.2.1 56 0 ((3 : Int32)).toNatClampNeg) ≤ v4 then (
  some (Sum.inr ((v1, h)))) else (
  (f_M_isLoose v4 h).bind fun r2 =>
  if r2 = (0 : Int32) then (
  f_M_choice_b65 v1 v2 v4 h) else (
  if (0 : Int32) ≤ (h.1 12 21 0) then (
  (f_M_worthOf v4 h).bind fun q9 =>
  f_M_choice_b47 v1 v2 v4 q9.1 q9.2) else (
  f_M_choice_b47 v1 v2 v4 (1 : Int64) h)))
set_option maxHeartbeats 4000000 in
set_option maxRecDepth 100000 in
theorem f_M_choice_s7_ok {g : xG} {l : Launch} {d : Nat} {v1 : Int32} {v2 : Int64} {v4 : Int32} {h : xH} {o : ((Int32 × Int64 × Int32 × xH) ⊕ (Int32 × xH))} {R : Option xV} {H' : xH} (hD : 6 ≤ d) (hf : f_M_choice_s7 v1 v2 v4 h = some o) (K1 : ∀ (w1 : Int32) (w2 : Int64) (w4 : Int32) (h1 : xH), o = Sum.inl (w1, w2, w4, h1) → xEv g l d 200 7 [(0, xr 12 (some 0)), (1, xi w1), (2, xl w2), (4, xi w4)] [] h1 R H') (K0 : ∀ (a : Int32) (h1 : xH), o = Sum.inr ((a, h1)) → R = some (xi a) ∧ H' = h1) : xEv g l d 200 7 [(0, xr 12 (some 0)), (1, xi v1), (2, xl v2), (4, xi v4)] [] h R H' := by
  unfold f_M_choice_s7 at hf
  refine xs_iload d200_7 rfl ?_
  refine xs_aload_n d200_9 rfl ?_
  refine xe_getc (j := 0) d200_10 ky200 fl181 fk12_20 rfl ?_
  refine xs_iconst (v := 3) d200_13 (by decide) ?_
  refine xe_iald d200_14 (by decide) ak56 (show xib (3 : Int32) 101 by decide) ?_
  rcases lk_if hf with ⟨hc1, hf⟩ | ⟨hc1, hf⟩
  · refine xs_icmp_ge (tgt := 71) d200_15 (by decide) (fun _ => ?_) (fun hn => absurd hc1 hn)
    refine xs_iload_n d200_71 rfl ?_
    obtain ⟨eR, eH⟩ := K0 _ _ (Option.some.inj hf).symm
    subst eR; subst eH
    exact xs_iret d200_72 rt200
  · refine xs_icmp_ge (tgt := 71) d200_15 (by decide) (fun hp => absurd hp hc1) (fun _ => ?_)
    refine xs_aload_n d200_18 rfl ?_
    refine xs_iload d200_19 rfl ?_
    obtain ⟨r2, hc3, hf⟩ := lk_b hf
    refine xe_callv1 (as := [xi v4]) (st := []) (h2 := h) (d2 := d - 1) d200_21 ky200 ml229 st188 (by decide) cn188 rfl na188 (Nat.le_of_ble_eq_true rfl) (by omega) (f_M_isLoose_ok (by omega) hc3) ?_
    rcases lk_if hf with ⟨hc4, hf⟩ | ⟨hc4, hf⟩
    · refine xs_if_ne (tgt := 30) d200_24 (by decide) (fun _ => ?_) (fun hn => absurd hc4 hn)
      refine xs_goto (tgt := 65) d200_27 (by decide) ?_
      exact f_M_choice_b65_ok hD hf K1 K0
    · refine xs_if_ne (tgt := 30) d200_24 (by decide) (fun hp => absurd hp hc4) (fun _ => ?_)
      refine xs_aload_n d200_30 rfl ?_
      refine xe_geti d200_31 ky200 fl182 fk12_21 ?_
      rcases lk_if hf with ⟨hc6, hf⟩ | ⟨hc6, hf⟩
      · refine xs_if_ge (tgt := 41) d200_34 (by decide) (fun _ => ?_) (fun hn => absurd hc6 hn)
        refine xs_aload_n d200_41 rfl ?_
        refine xs_iload d200_42 rfl ?_
        obtain ⟨q9, hc8, hf⟩ := lk_b hf
        refine xe_callv1 (as := [xi v4]) (st := []) (h2 := q9.2) (d2 := d - 1) d200_44 ky200 ml232 st199 (by decide) cn199 rfl na199 (Nat.le_of_ble_eq_true rfl) (by omega) (f_M_worthOf_ok (by omega) hc8) ?_
        exact f_M_choice_b47_ok hD hf K1 K0
      · refine xs_if_ge (tgt := 41) d200_34 (by decide) (fun hp => absurd hp hc6) (fun _ => ?_)
        refine xs_lconst (v := 1) d200_37 (by decide) ?_
        refine xs_goto (tgt := 47) d200_38 (by decide) ?_
        exact f_M_choice_b47_ok hD hf K1 K0
noncomputable def f_M_choice_l7 (v1 : Int32) (v2 : Int64) (v4 : Int32) (h : xH) : Option (Int32 × xH) :=
  whl (fun s => f_M_choice_s7 s.1 s.2.1 s.2.2.1 s.2.2.2) (v1, v2, v4, h)
theorem f_M_choice_l7_ok {g : xG} {l : Launch} {d : Nat} {v1 : Int32} {v2 : Int64} {v4 : Int32} {h : xH} {o : (Int32 × xH)} {R : Option xV} {H' : xH} (hD : 6 ≤ d) (hf : f_M_choice_l7 v1 v2 v4 h = some o) (K0 : ∀ (a : Int32) (h1 : xH), o = (a, h1) → R = some (xi a) ∧ H' = h1) : xEv g l d 200 7 [(0, xr 12 (some 0)), (1, xi v1), (2, xl v2), (4, xi v4)] [] h R H' := by
  obtain ⟨n, hn⟩ := whl_iff.mp hf
  clear hf
  induction n generalizing v1 v2 v4 h with
  | zero => cases hn
  | succ n ih =>
    obtain ⟨o2, hs, hn⟩ := lk_b (show (f_M_choice_s7 v1 v2 v4 h).bind (fun o => Sum.elim (itn _ n) some o) = some o from hn)
    exact f_M_choice_s7_ok hD hs (fun u0 u1 u2 u3 e => ih (by rw [e] at hn; exact hn)) (fun u0 u1 e => K0 u0 u1 (by rw [e] at hn; exact (Option.some.inj hn).symm))
noncomputable def f_M_choice_e (h : xH) : Option (Int32 × xH) :=
  f_M_choice_l7 (-1 : Int32) (0 : Int64) (0 : Int32) h
set_option maxHeartbeats 4000000 in
set_option maxRecDepth 100000 in
theorem f_M_choice_e_ok {g : xG} {l : Launch} {d : Nat} {h : xH} {o : (Int32 × xH)} {R : Option xV} {H' : xH} (hD : 6 ≤ d) (hf : f_M_choice_e h = some o) (K0 : ∀ (a : Int32) (h1 : xH), o = (a, h1) → R = some (xi a) ∧ H' = h1) : xEv g l d 200 0 [(0, xr 12 (some 0))] [] h R H' := by
  unfold f_M_choice_e at hf
  refine xs_iconst (v := -1) d200_0 (by decide) ?_
  refine xe_istore_n (v := (-1 : Int32)) (ls2 := [(0, xr 12 (some 0)), (1, xi (-1 : Int32))]) d200_1 mx200 (by decide) rfl rfl ?_
  refine xs_lconst (v := 0) d200_2 (by decide) ?_
  refine xe_lstore_n (v := (0 : Int64)) (ls2 := [(0, xr 12 (some 0)), (1, xi (-1 : Int32)), (2, xl (0 : Int64))]) d200_3 mx200 (by decide) rfl rfl ?_
  refine xs_iconst (v := 0) d200_4 (by decide) ?_
  refine xe_istore (v := (0 : Int32)) (ls2 := [(0, xr 12 (some 0)), (1, xi (-1 : Int32)), (2, xl (0 : Int64)), (4, xi (0 : Int32))]) d200_5 mx200 (by decide) rfl rfl ?_
  exact f_M_choice_l7_ok hD hf K0
noncomputable def f_M_choice (h : xH) : Option (Int32 × xH) := f_M_choice_e h
theorem f_M_choice_ok {g : xG} {l : Launch} {d : Nat} {h : xH} {r : Int32} {h1 : xH} (hD : 6 ≤ d) (hf : f_M_choice h = some (r, h1)) : xC g l d 200 [xr 12 (some 0)] h (some (xi r)) h1 :=
  xC_of2 (by decide) mx200 (Nat.le_of_ble_eq_true rfl) (f_M_choice_e_ok hD hf (fun _ _ e => by cases e; exact ⟨rfl, rfl⟩))
theorem d201_0 : decode (xcode 201) 0 = .ok (.aload_n 0, 1) := by decide +kernel
theorem d201_1 : decode (xcode 201) 1 = .ok (.getfield 39, 3) := by decide +kernel
theorem d201_4 : decode (xcode 201) 4 = .ok (.bipush 10, 2) := by decide +kernel
theorem d201_6 : decode (xcode 201) 6 = .ok (.iaload, 1) := by decide +kernel
theorem d201_7 : decode (xcode 201) 7 = .ok (.iload_n 1, 1) := by decide +kernel
theorem d201_8 : decode (xcode 201) 8 = .ok (.iadd, 1) := by decide +kernel
theorem d201_9 : decode (xcode 201) 9 = .ok (.istore_n 2, 1) := by decide +kernel
theorem d201_10 : decode (xcode 201) 10 = .ok (.aload_n 0, 1) := by decide +kernel
theorem d201_11 : decode (xcode 201) 11 = .ok (.getfield 39, 3) := by decide +kernel
theorem d201_14 : decode (xcode 201) 14 = .ok (.bipush 10, 2) := by decide +kernel
theorem d201_16 : decode (xcode 201) 16 = .ok (.iload_n 2, 1) := by decide +kernel
theorem d201_17 : decode (xcode 201) 17 = .ok (.sipush 9999, 3) := by decide +kernel
theorem d201_20 : decode (xcode 201) 20 = .ok (.if_icmp .le 9, 3) := by decide +kernel
theorem d201_23 : decode (xcode 201) 23 = .ok (.sipush 9999, 3) := by decide +kernel
theorem d201_26 : decode (xcode 201) 26 = .ok (.goto 4, 3) := by decide +kernel
theorem d201_29 : decode (xcode 201) 29 = .ok (.iload_n 2, 1) := by decide +kernel
theorem d201_30 : decode (xcode 201) 30 = .ok (.iastore, 1) := by decide +kernel
theorem d201_31 : decode (xcode 201) 31 = .ok (.return_, 1) := by decide +kernel
noncomputable def f_M_goesBy_b30 (t0 : Int32) (t1 : Int32) (h : xH) : Option xH :=
  if xib t1 101 then (
  xlet (xsA h 56 0 (upd (h.2.2.2.1 56 0) (t1).toNatClampNeg t0)) fun h4 =>
  some (h4)) else none
set_option maxHeartbeats 4000000 in
set_option maxRecDepth 100000 in
theorem f_M_goesBy_b30_ok {g : xG} {l : Launch} {d : Nat} {t0 : Int32} {t1 : Int32} {h : xH} {o : xH} {R : Option xV} {H' : xH} (hD : 0 ≤ d) (hf : f_M_goesBy_b30 t0 t1 h = some o) (K0 : ∀ (h1 : xH), o = h1 → R = none ∧ H' = h1) : xEv g l d 201 30 [] [xi t0, xi t1, xr 56 (some 0)] h R H' := by
  unfold f_M_goesBy_b30 at hf
  obtain ⟨hin3, hf⟩ := lk_g hf
  obtain ⟨h4, eh4, hf⟩ := lk_let hf
  refine xe_iast d201_30 (by decide) ak56 hin3  eh4 ?_
  obtain ⟨eR, eH⟩ := K0 _ (Option.some.inj hf).symm
  subst eR; subst eH
  exact xs_vret d201_31 rt201
noncomputable def f_M_goesBy_e (v1 : Int32) (h : xH) : Option xH :=
  xlet ((h.2.2.2.1 56 0 ((10 : Int32)).toNatClampNeg) + v1) fun v2_1 =>
  if v2_1 ≤ (9999 : Int32) then (
  f_M_goesBy_b30 v2_1 (10 : Int32) h) else (
  f_M_goesBy_b30 (9999 : Int32) (10 : Int32) h)
set_option maxHeartbeats 4000000 in
set_option maxRecDepth 100000 in
theorem f_M_goesBy_e_ok {g : xG} {l : Launch} {d : Nat} {v1 : Int32} {h : xH} {o : xH} {R : Option xV} {H' : xH} (hD : 0 ≤ d) (hf : f_M_goesBy_e v1 h = some o) (K0 : ∀ (h1 : xH), o = h1 → R = none ∧ H' = h1) : xEv g l d 201 0 [(0, xr 12 (some 0)), (1, xi v1)] [] h R H' := by
  unfold f_M_goesBy_e at hf
  refine xs_aload_n d201_0 rfl ?_
  refine xe_getc (j := 0) d201_1 ky201 fl181 fk12_20 rfl ?_
  refine xs_bipush (v := 10) d201_4 (by decide) ?_
  refine xe_iald d201_6 (by decide) ak56 (show xib (10 : Int32) 101 by decide) ?_
  refine xs_iload_n d201_7 rfl ?_
  refine xs_iadd d201_8 ?_
  obtain ⟨v2_1, ev2_1, hf⟩ := lk_let hf
  refine xe_istore_n (v := v2_1) (ls2 := [(0, xr 12 (some 0)), (1, xi v1), (2, xi v2_1)]) d201_9 mx201 (by decide) ev2_1 rfl ?_
  refine xs_aload_n d201_10 rfl ?_
  refine xe_getc (j := 0) d201_11 ky201 fl181 fk12_20 rfl ?_
  refine xs_bipush (v := 10) d201_14 (by decide) ?_
  refine xs_iload_n d201_16 rfl ?_
  refine xs_sipush (v := 9999) d201_17 (by decide) ?_
  rcases lk_if hf with ⟨hc2, hf⟩ | ⟨hc2, hf⟩
  · refine xs_icmp_le (tgt := 29) d201_20 (by decide) (fun _ => ?_) (fun hn => absurd hc2 hn)
    refine xs_iload_n d201_29 rfl ?_
    refine xs_pick [] rfl ?_
    exact f_M_goesBy_b30_ok hD hf K0
  · refine xs_icmp_le (tgt := 29) d201_20 (by decide) (fun hp => absurd hp hc2) (fun _ => ?_)
    refine xs_sipush (v := 9999) d201_23 (by decide) ?_
    refine xs_goto (tgt := 30) d201_26 (by decide) ?_
    refine xs_pick [] rfl ?_
    exact f_M_goesBy_b30_ok hD hf K0
noncomputable def f_M_goesBy (v1 : Int32) (h : xH) : Option xH := f_M_goesBy_e v1 h
theorem f_M_goesBy_ok {g : xG} {l : Launch} {d : Nat} {v1 : Int32} {h : xH} {h1 : xH} (hD : 0 ≤ d) (hf : f_M_goesBy v1 h = some h1) : xC g l d 201 [xr 12 (some 0), xi v1] h none h1 :=
  xC_of2 (by decide) mx201 (Nat.le_of_ble_eq_true rfl) (f_M_goesBy_e_ok hD hf (fun _ e => ⟨rfl, e⟩))
theorem d202_0 : decode (xcode 202) 0 = .ok (.aload_n 0, 1) := by decide +kernel
theorem d202_1 : decode (xcode 202) 1 = .ok (.aload_n 0, 1) := by decide +kernel
theorem d202_2 : decode (xcode 202) 2 = .ok (.getfield 39, 3) := by decide +kernel
theorem d202_5 : decode (xcode 202) 5 = .ok (.bipush 44, 2) := by decide +kernel
theorem d202_7 : decode (xcode 202) 7 = .ok (.iload_n 1, 1) := by decide +kernel
theorem d202_8 : decode (xcode 202) 8 = .ok (.iadd, 1) := by decide +kernel
theorem d202_9 : decode (xcode 202) 9 = .ok (.iaload, 1) := by decide +kernel
theorem d202_10 : decode (xcode 202) 10 = .ok (.invokevirtual 337, 3) := by decide +kernel
theorem d202_13 : decode (xcode 202) 13 = .ok (.aload_n 0, 1) := by decide +kernel
theorem d202_14 : decode (xcode 202) 14 = .ok (.getfield 39, 3) := by decide +kernel
theorem d202_17 : decode (xcode 202) 17 = .ok (.bipush 12, 2) := by decide +kernel
theorem d202_19 : decode (xcode 202) 19 = .ok (.iload_n 1, 1) := by decide +kernel
theorem d202_20 : decode (xcode 202) 20 = .ok (.iadd, 1) := by decide +kernel
theorem d202_21 : decode (xcode 202) 21 = .ok (.aload_n 0, 1) := by decide +kernel
theorem d202_22 : decode (xcode 202) 22 = .ok (.getfield 39, 3) := by decide +kernel
theorem d202_25 : decode (xcode 202) 25 = .ok (.bipush 10, 2) := by decide +kernel
theorem d202_27 : decode (xcode 202) 27 = .ok (.iaload, 1) := by decide +kernel
theorem d202_28 : decode (xcode 202) 28 = .ok (.aload_n 0, 1) := by decide +kernel
theorem d202_29 : decode (xcode 202) 29 = .ok (.getfield 39, 3) := by decide +kernel
theorem d202_32 : decode (xcode 202) 32 = .ok (.iconst 1, 1) := by decide +kernel
theorem d202_33 : decode (xcode 202) 33 = .ok (.iaload, 1) := by decide +kernel
theorem d202_34 : decode (xcode 202) 34 = .ok (.if_icmp .gt 7, 3) := by decide +kernel
theorem d202_37 : decode (xcode 202) 37 = .ok (.iconst 1, 1) := by decide +kernel
theorem d202_38 : decode (xcode 202) 38 = .ok (.goto 4, 3) := by decide +kernel
theorem d202_41 : decode (xcode 202) 41 = .ok (.iconst 2, 1) := by decide +kernel
theorem d202_42 : decode (xcode 202) 42 = .ok (.iastore, 1) := by decide +kernel
theorem d202_43 : decode (xcode 202) 43 = .ok (.aload_n 0, 1) := by decide +kernel
theorem d202_44 : decode (xcode 202) 44 = .ok (.getfield 39, 3) := by decide +kernel
theorem d202_47 : decode (xcode 202) 47 = .ok (.bipush 20, 2) := by decide +kernel
theorem d202_49 : decode (xcode 202) 49 = .ok (.iload_n 1, 1) := by decide +kernel
theorem d202_50 : decode (xcode 202) 50 = .ok (.iadd, 1) := by decide +kernel
theorem d202_51 : decode (xcode 202) 51 = .ok (.aload_n 0, 1) := by decide +kernel
theorem d202_52 : decode (xcode 202) 52 = .ok (.getfield 39, 3) := by decide +kernel
theorem d202_55 : decode (xcode 202) 55 = .ok (.bipush 10, 2) := by decide +kernel
theorem d202_57 : decode (xcode 202) 57 = .ok (.iaload, 1) := by decide +kernel
theorem d202_58 : decode (xcode 202) 58 = .ok (.iastore, 1) := by decide +kernel
theorem d202_59 : decode (xcode 202) 59 = .ok (.return_, 1) := by decide +kernel
noncomputable def f_M_lifts_b42 (v1 : Int32) (t0 : Int32) (t1 : Int32) (h : xH) : Option xH :=
  if xib t1 101 then (
  xlet (xsA h 56 0 (upd (h.2.2.2.1 56 0) (t1).toNatClampNeg t0)) fun h7 =>
  if xib ((20 : Int32) + v1) 101 then (
  xlet (xsA h7 56 0 (upd (h7.2.2.2.1 56 0) ((20 : Int32) + v1).toNatClampNeg (h7.2.2.2.1 56 0 ((10 : Int32)).toNatClampNeg))) fun h9 =>
  some (h9)) else none) else none
set_option maxHeartbeats 4000000 in
set_option maxRecDepth 100000 in
theorem f_M_lifts_b42_ok {g : xG} {l : Launch} {d : Nat} {v1 : Int32} {t0 : Int32} {t1 : Int32} {h : xH} {o : xH} {R : Option xV} {H' : xH} (hD : 1 ≤ d) (hf : f_M_lifts_b42 v1 t0 t1 h = some o) (K0 : ∀ (h1 : xH), o = h1 → R = none ∧ H' = h1) : xEv g l d 202 42 [(0, xr 12 (some 0)), (1, xi v1)] [xi t0, xi t1, xr 56 (some 0)] h R H' := by
  unfold f_M_lifts_b42 at hf
  obtain ⟨hin6, hf⟩ := lk_g hf
  obtain ⟨h7, eh7, hf⟩ := lk_let hf
  refine xe_iast d202_42 (by decide) ak56 hin6  eh7 ?_
  refine xs_aload_n d202_43 rfl ?_
  refine xe_getc (j := 0) d202_44 ky202 fl181 fk12_20 rfl ?_
  refine xs_bipush (v := 20) d202_47 (by decide) ?_
  refine xs_iload_n d202_49 rfl ?_
  refine xs_iadd d202_50 ?_
  refine xs_aload_n d202_51 rfl ?_
  refine xe_getc (j := 0) d202_52 ky202 fl181 fk12_20 rfl ?_
  refine xs_bipush (v := 10) d202_55 (by decide) ?_
  refine xe_iald d202_57 (by decide) ak56 (show xib (10 : Int32) 101 by decide) ?_
  obtain ⟨hin8, hf⟩ := lk_g hf
  obtain ⟨h9, eh9, hf⟩ := lk_let hf
  refine xe_iast d202_58 (by decide) ak56 hin8  eh9 ?_
  obtain ⟨eR, eH⟩ := K0 _ (Option.some.inj hf).symm
  subst eR; subst eH
  exact xs_vret d202_59 rt202
noncomputable def f_M_lifts_e (v1 : Int32) (h : xH) : Option xH :=
  if xib ((44 : Int32) + v1) 101 then (
  (f_M_goesBy (h.2.2.2.1 56 0 ((44 : Int32) + v1).toNatClampNeg) h).bind fun h4 =>
  if (h4.2.2.2.1 56 0 ((1 : Int32)).toNatClampNeg) < (h4.2.2.2.1 56 0 ((10 : Int32)).toNatClampNeg) then (
  f_M_lifts_b42 v1 (2 : Int32) ((12 : Int32) + v1) h4) else (
  f_M_lifts_b42 v1 (1 : Int32) ((12 : Int32) + v1) h4)) else none
set_option maxHeartbeats 4000000 in
set_option maxRecDepth 100000 in
theorem f_M_lifts_e_ok {g : xG} {l : Launch} {d : Nat} {v1 : Int32} {h : xH} {o : xH} {R : Option xV} {H' : xH} (hD : 1 ≤ d) (hf : f_M_lifts_e v1 h = some o) (K0 : ∀ (h1 : xH), o = h1 → R = none ∧ H' = h1) : xEv g l d 202 0 [(0, xr 12 (some 0)), (1, xi v1)] [] h R H' := by
  unfold f_M_lifts_e at hf
  refine xs_aload_n d202_0 rfl ?_
  refine xs_aload_n d202_1 rfl ?_
  refine xe_getc (j := 0) d202_2 ky202 fl181 fk12_20 rfl ?_
  refine xs_bipush (v := 44) d202_5 (by decide) ?_
  refine xs_iload_n d202_7 rfl ?_
  refine xs_iadd d202_8 ?_
  obtain ⟨hin1, hf⟩ := lk_g hf
  refine xe_iald d202_9 (by decide) ak56 hin1 ?_
  obtain ⟨h4, hc3, hf⟩ := lk_b hf
  refine xe_callv0 (as := [xi (h.2.2.2.1 56 0 ((44 : Int32) + v1).toNatClampNeg)]) (st := []) (h2 := h4) (d2 := d - 1) d202_10 ky202 ml245 st201 (by decide) cn201 rfl na201 (Nat.le_of_ble_eq_true rfl) (by omega) (f_M_goesBy_ok (by omega) hc3) ?_
  refine xs_aload_n d202_13 rfl ?_
  refine xe_getc (j := 0) d202_14 ky202 fl181 fk12_20 rfl ?_
  refine xs_bipush (v := 12) d202_17 (by decide) ?_
  refine xs_iload_n d202_19 rfl ?_
  refine xs_iadd d202_20 ?_
  refine xs_aload_n d202_21 rfl ?_
  refine xe_getc (j := 0) d202_22 ky202 fl181 fk12_20 rfl ?_
  refine xs_bipush (v := 10) d202_25 (by decide) ?_
  refine xe_iald d202_27 (by decide) ak56 (show xib (10 : Int32) 101 by decide) ?_
  refine xs_aload_n d202_28 rfl ?_
  refine xe_getc (j := 0) d202_29 ky202 fl181 fk12_20 rfl ?_
  refine xs_iconst (v := 1) d202_32 (by decide) ?_
  refine xe_iald d202_33 (by decide) ak56 (show xib (1 : Int32) 101 by decide) ?_
  rcases lk_if hf with ⟨hc5, hf⟩ | ⟨hc5, hf⟩
  · refine xs_icmp_gt (tgt := 41) d202_34 (by decide) (fun _ => ?_) (fun hn => absurd hc5 hn)
    refine xs_iconst (v := 2) d202_41 (by decide) ?_
    exact f_M_lifts_b42_ok hD hf K0
  · refine xs_icmp_gt (tgt := 41) d202_34 (by decide) (fun hp => absurd hp hc5) (fun _ => ?_)
    refine xs_iconst (v := 1) d202_37 (by decide) ?_
    refine xs_goto (tgt := 42) d202_38 (by decide) ?_
    exact f_M_lifts_b42_ok hD hf K0
noncomputable def f_M_lifts (v1 : Int32) (h : xH) : Option xH := f_M_lifts_e v1 h
theorem f_M_lifts_ok {g : xG} {l : Launch} {d : Nat} {v1 : Int32} {h : xH} {h1 : xH} (hD : 1 ≤ d) (hf : f_M_lifts v1 h = some h1) : xC g l d 202 [xr 12 (some 0), xi v1] h none h1 :=
  xC_of2 (by decide) mx202 (Nat.le_of_ble_eq_true rfl) (f_M_lifts_e_ok hD hf (fun _ e => ⟨rfl, e⟩))
theorem d203_0 : decode (xcode 203) 0 = .ok (.aload_n 0, 1) := by decide +kernel
theorem d203_1 : decode (xcode 203) 1 = .ok (.invokevirtual 340, 3) := by decide +kernel
theorem d203_4 : decode (xcode 203) 4 = .ok (.istore_n 1, 1) := by decide +kernel
theorem d203_5 : decode (xcode 203) 5 = .ok (.iload_n 1, 1) := by decide +kernel
theorem d203_6 : decode (xcode 203) 6 = .ok (.ifCond .ge 11, 3) := by decide +kernel
theorem d203_9 : decode (xcode 203) 9 = .ok (.aload_n 0, 1) := by decide +kernel
theorem d203_10 : decode (xcode 203) 10 = .ok (.iconst 1, 1) := by decide +kernel
theorem d203_11 : decode (xcode 203) 11 = .ok (.invokevirtual 337, 3) := by decide +kernel
theorem d203_14 : decode (xcode 203) 14 = .ok (.goto 8, 3) := by decide +kernel
theorem d203_17 : decode (xcode 203) 17 = .ok (.aload_n 0, 1) := by decide +kernel
theorem d203_18 : decode (xcode 203) 18 = .ok (.iload_n 1, 1) := by decide +kernel
theorem d203_19 : decode (xcode 203) 19 = .ok (.invokevirtual 343, 3) := by decide +kernel
theorem d203_22 : decode (xcode 203) 22 = .ok (.aload_n 0, 1) := by decide +kernel
theorem d203_23 : decode (xcode 203) 23 = .ok (.getfield 39, 3) := by decide +kernel
theorem d203_26 : decode (xcode 203) 26 = .ok (.bipush 11, 2) := by decide +kernel
theorem d203_28 : decode (xcode 203) 28 = .ok (.dup2, 1) := by decide +kernel
theorem d203_29 : decode (xcode 203) 29 = .ok (.iaload, 1) := by decide +kernel
theorem d203_30 : decode (xcode 203) 30 = .ok (.iconst 1, 1) := by decide +kernel
theorem d203_31 : decode (xcode 203) 31 = .ok (.iadd, 1) := by decide +kernel
theorem d203_32 : decode (xcode 203) 32 = .ok (.iastore, 1) := by decide +kernel
theorem d203_33 : decode (xcode 203) 33 = .ok (.iload_n 1, 1) := by decide +kernel
theorem d203_34 : decode (xcode 203) 34 = .ok (.ireturn, 1) := by decide +kernel
noncomputable def f_M_passes_b22 (v1 : Int32) (h : xH) : Option (Int32 × xH) :=
  xlet (xsA h 56 0 (upd (h.2.2.2.1 56 0) ((11 : Int32)).toNatClampNeg ((h.2.2.2.1 56 0 ((11 : Int32)).toNatClampNeg) + (1 : Int32)))) fun h8 =>
  some ((v1, h8))
set_option maxHeartbeats 4000000 in
set_option maxRecDepth 100000 in
theorem f_M_passes_b22_ok {g : xG} {l : Launch} {d : Nat} {v1 : Int32} {h : xH} {o : (Int32 × xH)} {R : Option xV} {H' : xH} (hD : 7 ≤ d) (hf : f_M_passes_b22 v1 h = some o) (K0 : ∀ (a : Int32) (h1 : xH), o = (a, h1) → R = some (xi a) ∧ H' = h1) : xEv g l d 203 22 [(0, xr 12 (some 0)), (1, xi v1)] [] h R H' := by
  unfold f_M_passes_b22 at hf
  refine xs_aload_n d203_22 rfl ?_
  refine xe_getc (j := 0) d203_23 ky203 fl181 fk12_20 rfl ?_
  refine xs_bipush (v := 11) d203_26 (by decide) ?_
  refine xs_dup2 d203_28 rfl rfl ?_
  refine xe_iald d203_29 (by decide) ak56 (show xib (11 : Int32) 101 by decide) ?_
  refine xs_iconst (v := 1) d203_30 (by decide) ?_
  refine xs_iadd d203_31 ?_
  obtain ⟨h8, eh8, hf⟩ := lk_let hf
  refine xe_iast d203_32 (by decide) ak56 (show xib (11 : Int32) 101 by decide)  eh8 ?_
  refine xs_iload_n d203_33 rfl ?_
  obtain ⟨eR, eH⟩ := K0 _ _ (Option.some.inj hf).symm
  subst eR; subst eH
  exact xs_iret d203_34 rt203
noncomputable def f_M_passes_e (h : xH) : Option (Int32 × xH) :=
  (f_M_choice h).bind fun q3 =>
  if (0 : Int32) ≤ q3.1 then (
  (f_M_lifts q3.1 q3.2).bind fun h7 =>
  f_M_passes_b22 q3.1 h7) else (
  (f_M_goesBy (1 : Int32) q3.2).bind fun h11 =>
  f_M_passes_b22 q3.1 h11)
set_option maxHeartbeats 4000000 in
set_option maxRecDepth 100000 in
theorem f_M_passes_e_ok {g : xG} {l : Launch} {d : Nat} {h : xH} {o : (Int32 × xH)} {R : Option xV} {H' : xH} (hD : 7 ≤ d) (hf : f_M_passes_e h = some o) (K0 : ∀ (a : Int32) (h1 : xH), o = (a, h1) → R = some (xi a) ∧ H' = h1) : xEv g l d 203 0 [(0, xr 12 (some 0))] [] h R H' := by
  unfold f_M_passes_e at hf
  refine xs_aload_n d203_0 rfl ?_
  obtain ⟨q3, hc2, hf⟩ := lk_b hf
  refine xe_callv1 (as := []) (st := []) (h2 := q3.2) (d2 := d - 1) d203_1 ky203 ml228 st200 (by decide) cn200 rfl na200 (Nat.le_of_ble_eq_true rfl) (by omega) (f_M_choice_ok (by omega) hc2) ?_
  refine xe_istore_n (v := q3.1) (ls2 := [(0, xr 12 (some 0)), (1, xi q3.1)]) d203_4 mx203 (by decide) rfl rfl ?_
  refine xs_iload_n d203_5 rfl ?_
  rcases lk_if hf with ⟨hc4, hf⟩ | ⟨hc4, hf⟩
  · refine xs_if_ge (tgt := 17) d203_6 (by decide) (fun _ => ?_) (fun hn => absurd hc4 hn)
    refine xs_aload_n d203_17 rfl ?_
    refine xs_iload_n d203_18 rfl ?_
    obtain ⟨h7, hc6, hf⟩ := lk_b hf
    refine xe_callv0 (as := [xi q3.1]) (st := []) (h2 := h7) (d2 := d - 1) d203_19 ky203 ml246 st202 (by decide) cn202 rfl na202 (Nat.le_of_ble_eq_true rfl) (by omega) (f_M_lifts_ok (by omega) hc6) ?_
    exact f_M_passes_b22_ok hD hf K0
  · refine xs_if_ge (tgt := 17) d203_6 (by decide) (fun hp => absurd hp hc4) (fun _ => ?_)
    refine xs_aload_n d203_9 rfl ?_
    refine xs_iconst (v := 1) d203_10 (by decide) ?_
    obtain ⟨h11, hc10, hf⟩ := lk_b hf
    refine xe_callv0 (as := [xi (1 : Int32)]) (st := []) (h2 := h11) (d2 := d - 1) d203_11 ky203 ml245 st201 (by decide) cn201 rfl na201 (Nat.le_of_ble_eq_true rfl) (by omega) (f_M_goesBy_ok (by omega) hc10) ?_
    refine xs_goto (tgt := 22) d203_14 (by decide) ?_
    exact f_M_passes_b22_ok hD hf K0
noncomputable def f_M_passes (h : xH) : Option (Int32 × xH) := f_M_passes_e h
theorem f_M_passes_ok {g : xG} {l : Launch} {d : Nat} {h : xH} {r : Int32} {h1 : xH} (hD : 7 ≤ d) (hf : f_M_passes h = some (r, h1)) : xC g l d 203 [xr 12 (some 0)] h (some (xi r)) h1 :=
  xC_of2 (by decide) mx203 (Nat.le_of_ble_eq_true rfl) (f_M_passes_e_ok hD hf (fun _ _ e => by cases e; exact ⟨rfl, rfl⟩))
theorem d204_0 : decode (xcode 204) 0 = .ok (.iconst 0, 1) := by decide +kernel
theorem d204_1 : decode (xcode 204) 1 = .ok (.istore_n 2, 1) := by decide +kernel
theorem d204_2 : decode (xcode 204) 2 = .ok (.iload_n 2, 1) := by decide +kernel
theorem d204_3 : decode (xcode 204) 3 = .ok (.iload_n 1, 1) := by decide +kernel
theorem d204_4 : decode (xcode 204) 4 = .ok (.if_icmp .ge 14, 3) := by decide +kernel
theorem d204_7 : decode (xcode 204) 7 = .ok (.aload_n 0, 1) := by decide +kernel
theorem d204_8 : decode (xcode 204) 8 = .ok (.invokevirtual 346, 3) := by decide +kernel
theorem d204_11 : decode (xcode 204) 11 = .ok (.pop, 1) := by decide +kernel
theorem d204_12 : decode (xcode 204) 12 = .ok (.iinc 2 1, 3) := by decide +kernel
theorem d204_15 : decode (xcode 204) 15 = .ok (.goto (-13), 3) := by decide +kernel
theorem d204_18 : decode (xcode 204) 18 = .ok (.return_, 1) := by decide +kernel
noncomputable def f_M_passesAll_s2 (v1 : Int32) (v2 : Int32) (h : xH) : Option ((Int32 × xH) ⊕ xH) :=
  if v1 ≤ v2 then (
  some (Sum.inr (h))) else (
  (f_M_passes h).bind fun q4 =>
  xlet (v2 + (1 : Int32)) fun v2_5 =>
  some (Sum.inl (v2_5, q4.2)))
set_option maxHeartbeats 4000000 in
set_option maxRecDepth 100000 in
theorem f_M_passesAll_s2_ok {g : xG} {l : Launch} {d : Nat} {v1 : Int32} {v2 : Int32} {h : xH} {o : ((Int32 × xH) ⊕ xH)} {R : Option xV} {H' : xH} (hD : 8 ≤ d) (hf : f_M_passesAll_s2 v1 v2 h = some o) (K1 : ∀ (w2 : Int32) (h1 : xH), o = Sum.inl (w2, h1) → xEv g l d 204 2 [(0, xr 12 (some 0)), (1, xi v1), (2, xi w2)] [] h1 R H') (K0 : ∀ (h1 : xH), o = Sum.inr (h1) → R = none ∧ H' = h1) : xEv g l d 204 2 [(0, xr 12 (some 0)), (1, xi v1), (2, xi v2)] [] h R H' := by
  unfold f_M_passesAll_s2 at hf
  refine xs_iload_n d204_2 rfl ?_
  refine xs_iload_n d204_3 rfl ?_
  rcases lk_if hf with ⟨hc1, hf⟩ | ⟨hc1, hf⟩
  · refine xs_icmp_ge (tgt := 18) d204_4 (by decide) (fun _ => ?_) (fun hn => absurd hc1 hn)
    obtain ⟨eR, eH⟩ := K0 _ (Option.some.inj hf).symm
    subst eR; subst eH
    exact xs_vret d204_18 rt204
  · refine xs_icmp_ge (tgt := 18) d204_4 (by decide) (fun hp => absurd hp hc1) (fun _ => ?_)
    refine xs_aload_n d204_7 rfl ?_
    obtain ⟨q4, hc3, hf⟩ := lk_b hf
    refine xe_callv1 (as := []) (st := []) (h2 := q4.2) (d2 := d - 1) d204_8 ky204 ml227 st203 (by decide) cn203 rfl na203 (Nat.le_of_ble_eq_true rfl) (by omega) (f_M_passes_ok (by omega) hc3) ?_
    refine xs_pop d204_11 rfl ?_
    obtain ⟨v2_5, ev2_5, hf⟩ := lk_let hf
    refine xe_iinc (v := v2_5) (b := 1) (ls2 := [(0, xr 12 (some 0)), (1, xi v1), (2, xi v2_5)]) d204_12 mx204 (by decide) rfl (by decide) ev2_5 rfl ?_
    refine xs_goto (tgt := 2) d204_15 (by decide) ?_
    exact K1 _ _ (Option.some.inj hf).symm
noncomputable def f_M_passesAll_l2 (v1 : Int32) (v2 : Int32) (h : xH) : Option xH :=
  whl (fun s => f_M_passesAll_s2 v1 s.1 s.2) (v2, h)
theorem f_M_passesAll_l2_ok {g : xG} {l : Launch} {d : Nat} {v1 : Int32} {v2 : Int32} {h : xH} {o : xH} {R : Option xV} {H' : xH} (hD : 8 ≤ d) (hf : f_M_passesAll_l2 v1 v2 h = some o) (K0 : ∀ (h1 : xH), o = h1 → R = none ∧ H' = h1) : xEv g l d 204 2 [(0, xr 12 (some 0)), (1, xi v1), (2, xi v2)] [] h R H' := by
  obtain ⟨n, hn⟩ := whl_iff.mp hf
  clear hf
  induction n generalizing v2 h with
  | zero => cases hn
  | succ n ih =>
    obtain ⟨o2, hs, hn⟩ := lk_b (show (f_M_passesAll_s2 v1 v2 h).bind (fun o => Sum.elim (itn _ n) some o) = some o from hn)
    exact f_M_passesAll_s2_ok hD hs (fun u0 u1 e => ih (by rw [e] at hn; exact hn)) (fun u0 e => K0 u0 (by rw [e] at hn; exact (Option.some.inj hn).symm))
noncomputable def f_M_passesAll_e (v1 : Int32) (h : xH) : Option xH :=
  f_M_passesAll_l2 v1 (0 : Int32) h
set_option maxHeartbeats 4000000 in
set_option maxRecDepth 100000 in
theorem f_M_passesAll_e_ok {g : xG} {l : Launch} {d : Nat} {v1 : Int32} {h : xH} {o : xH} {R : Option xV} {H' : xH} (hD : 8 ≤ d) (hf : f_M_passesAll_e v1 h = some o) (K0 : ∀ (h1 : xH), o = h1 → R = none ∧ H' = h1) : xEv g l d 204 0 [(0, xr 12 (some 0)), (1, xi v1)] [] h R H' := by
  unfold f_M_passesAll_e at hf
  refine xs_iconst (v := 0) d204_0 (by decide) ?_
  refine xe_istore_n (v := (0 : Int32)) (ls2 := [(0, xr 12 (some 0)), (1, xi v1), (2, xi (0 : Int32))]) d204_1 mx204 (by decide) rfl rfl ?_
  exact f_M_passesAll_l2_ok hD hf K0
noncomputable def f_M_passesAll (v1 : Int32) (h : xH) : Option xH := f_M_passesAll_e v1 h
theorem f_M_passesAll_ok {g : xG} {l : Launch} {d : Nat} {v1 : Int32} {h : xH} {h1 : xH} (hD : 8 ≤ d) (hf : f_M_passesAll v1 h = some h1) : xC g l d 204 [xr 12 (some 0), xi v1] h none h1 :=
  xC_of2 (by decide) mx204 (Nat.le_of_ble_eq_true rfl) (f_M_passesAll_e_ok hD hf (fun _ e => ⟨rfl, e⟩))
theorem d205_0 : decode (xcode 205) 0 = .ok (.aload_n 0, 1) := by decide +kernel
theorem d205_1 : decode (xcode 205) 1 = .ok (.getfield 272, 3) := by decide +kernel
theorem d205_4 : decode (xcode 205) 4 = .ok (.bipush 20, 2) := by decide +kernel
theorem d205_6 : decode (xcode 205) 6 = .ok (.if_icmp .ne 44, 3) := by decide +kernel
theorem d205_9 : decode (xcode 205) 9 = .ok (.bipush 34, 2) := by decide +kernel
theorem d205_11 : decode (xcode 205) 11 = .ok (.istore_n 1, 1) := by decide +kernel
theorem d205_12 : decode (xcode 205) 12 = .ok (.iload_n 1, 1) := by decide +kernel
theorem d205_13 : decode (xcode 205) 13 = .ok (.sipush 680, 3) := by decide +kernel
theorem d205_16 : decode (xcode 205) 16 = .ok (.if_icmp .ge 24, 3) := by decide +kernel
theorem d205_19 : decode (xcode 205) 19 = .ok (.aload_n 0, 1) := by decide +kernel
theorem d205_20 : decode (xcode 205) 20 = .ok (.getfield 46, 3) := by decide +kernel
theorem d205_23 : decode (xcode 205) 23 = .ok (.iload_n 1, 1) := by decide +kernel
theorem d205_24 : decode (xcode 205) 24 = .ok (.bipush 34, 2) := by decide +kernel
theorem d205_26 : decode (xcode 205) 26 = .ok (.isub, 1) := by decide +kernel
theorem d205_27 : decode (xcode 205) 27 = .ok (.aload_n 0, 1) := by decide +kernel
theorem d205_28 : decode (xcode 205) 28 = .ok (.getfield 46, 3) := by decide +kernel
theorem d205_31 : decode (xcode 205) 31 = .ok (.iload_n 1, 1) := by decide +kernel
theorem d205_32 : decode (xcode 205) 32 = .ok (.iaload, 1) := by decide +kernel
theorem d205_33 : decode (xcode 205) 33 = .ok (.iastore, 1) := by decide +kernel
theorem d205_34 : decode (xcode 205) 34 = .ok (.iinc 1 1, 3) := by decide +kernel
theorem d205_37 : decode (xcode 205) 37 = .ok (.goto (-25), 3) := by decide +kernel
theorem d205_40 : decode (xcode 205) 40 = .ok (.aload_n 0, 1) := by decide +kernel
theorem d205_41 : decode (xcode 205) 41 = .ok (.dup, 1) := by decide +kernel
theorem d205_42 : decode (xcode 205) 42 = .ok (.getfield 272, 3) := by decide +kernel
theorem d205_45 : decode (xcode 205) 45 = .ok (.iconst 1, 1) := by decide +kernel
theorem d205_46 : decode (xcode 205) 46 = .ok (.isub, 1) := by decide +kernel
theorem d205_47 : decode (xcode 205) 47 = .ok (.putfield 272, 3) := by decide +kernel
theorem d205_50 : decode (xcode 205) 50 = .ok (.iconst 0, 1) := by decide +kernel
theorem d205_51 : decode (xcode 205) 51 = .ok (.istore_n 1, 1) := by decide +kernel
theorem d205_52 : decode (xcode 205) 52 = .ok (.iload_n 1, 1) := by decide +kernel
theorem d205_53 : decode (xcode 205) 53 = .ok (.bipush 34, 2) := by decide +kernel
theorem d205_55 : decode (xcode 205) 55 = .ok (.if_icmp .ge 32, 3) := by decide +kernel
theorem d205_58 : decode (xcode 205) 58 = .ok (.aload_n 0, 1) := by decide +kernel
theorem d205_59 : decode (xcode 205) 59 = .ok (.getfield 46, 3) := by decide +kernel
theorem d205_62 : decode (xcode 205) 62 = .ok (.bipush 34, 2) := by decide +kernel
theorem d205_64 : decode (xcode 205) 64 = .ok (.aload_n 0, 1) := by decide +kernel
theorem d205_65 : decode (xcode 205) 65 = .ok (.getfield 272, 3) := by decide +kernel
theorem d205_68 : decode (xcode 205) 68 = .ok (.imul, 1) := by decide +kernel
theorem d205_69 : decode (xcode 205) 69 = .ok (.iload_n 1, 1) := by decide +kernel
theorem d205_70 : decode (xcode 205) 70 = .ok (.iadd, 1) := by decide +kernel
theorem d205_71 : decode (xcode 205) 71 = .ok (.aload_n 0, 1) := by decide +kernel
theorem d205_72 : decode (xcode 205) 72 = .ok (.getfield 39, 3) := by decide +kernel
theorem d205_75 : decode (xcode 205) 75 = .ok (.bipush 10, 2) := by decide +kernel
theorem d205_77 : decode (xcode 205) 77 = .ok (.iload_n 1, 1) := by decide +kernel
theorem d205_78 : decode (xcode 205) 78 = .ok (.iadd, 1) := by decide +kernel
theorem d205_79 : decode (xcode 205) 79 = .ok (.iaload, 1) := by decide +kernel
theorem d205_80 : decode (xcode 205) 80 = .ok (.iastore, 1) := by decide +kernel
theorem d205_81 : decode (xcode 205) 81 = .ok (.iinc 1 1, 3) := by decide +kernel
theorem d205_84 : decode (xcode 205) 84 = .ok (.goto (-32), 3) := by decide +kernel
theorem d205_87 : decode (xcode 205) 87 = .ok (.aload_n 0, 1) := by decide +kernel
theorem d205_88 : decode (xcode 205) 88 = .ok (.dup, 1) := by decide +kernel
theorem d205_89 : decode (xcode 205) 89 = .ok (.getfield 272, 3) := by decide +kernel
theorem d205_92 : decode (xcode 205) 92 = .ok (.iconst 1, 1) := by decide +kernel
theorem d205_93 : decode (xcode 205) 93 = .ok (.iadd, 1) := by decide +kernel
theorem d205_94 : decode (xcode 205) 94 = .ok (.putfield 272, 3) := by decide +kernel
theorem d205_97 : decode (xcode 205) 97 = .ok (.return_, 1) := by decide +kernel
noncomputable def f_M_keepsAct_b87 (h : xH) : Option xH :=
  xlet (xsI h 12 24 0 ((h.1 12 24 0) + (1 : Int32))) fun h5 =>
  some (h5)
set_option maxHeartbeats 4000000 in
set_option maxRecDepth 100000 in
theorem f_M_keepsAct_b87_ok {g : xG} {l : Launch} {d : Nat} {h : xH} {o : xH} {R : Option xV} {H' : xH} (hD : 0 ≤ d) (hf : f_M_keepsAct_b87 h = some o) (K0 : ∀ (h1 : xH), o = h1 → R = none ∧ H' = h1) : xEv g l d 205 87 [(0, xr 12 (some 0))] [] h R H' := by
  unfold f_M_keepsAct_b87 at hf
  refine xs_aload_n d205_87 rfl ?_
  refine xs_dup d205_88 rfl ?_
  refine xe_geti d205_89 ky205 fl185 fk12_24 ?_
  refine xs_iconst (v := 1) d205_92 (by decide) ?_
  refine xs_iadd d205_93 ?_
  obtain ⟨h5, eh5, hf⟩ := lk_let hf
  refine xe_puti d205_94 ky205 fl185 fk12_24 ft12_24 eh5 ?_
  obtain ⟨eR, eH⟩ := K0 _ (Option.some.inj hf).symm
  subst eR; subst eH
  exact xs_vret d205_97 rt205
noncomputable def f_M_keepsAct_s52 (v1 : Int32) (h : xH) : Option ((Int32 × xH) ⊕ xH) :=
  if (34 : Int32) ≤ v1 then (
  xup (f_M_keepsAct_b87 h)) else (
  if xib ((10 : Int32) + v1) 101 then (
  if xib (((34 : Int32) * (h.1 12 24 0)) + v1) 680 then (
  xlet (xsA h 57 0 (upd (h.2.2.2.1 57 0) (((34 : Int32) * (h.1 12 24 0)) + v1).toNatClampNeg (h.2.2.2.1 56 0 ((10 : Int32) + v1).toNatClampNeg))) fun h8 =>
  xlet (v1 + (1 : Int32)) fun v1_9 =>
  some (Sum.inl (v1_9, h8))) else none) else none)
set_option maxHeartbeats 4000000 in
set_option maxRecDepth 100000 in
theorem f_M_keepsAct_s52_ok {g : xG} {l : Launch} {d : Nat} {v1 : Int32} {h : xH} {o : ((Int32 × xH) ⊕ xH)} {R : Option xV} {H' : xH} (hD : 0 ≤ d) (hf : f_M_keepsAct_s52 v1 h = some o) (K1 : ∀ (w1 : Int32) (h1 : xH), o = Sum.inl (w1, h1) → xEv g l d 205 52 [(0, xr 12 (some 0)), (1, xi w1)] [] h1 R H') (K0 : ∀ (h1 : xH), o = Sum.inr (h1) → R = none ∧ H' = h1) : xEv g l d 205 52 [(0, xr 12 (some 0)), (1, xi v1)] [] h R H' := by
  unfold f_M_keepsAct_s52 at hf
  refine xs_iload_n d205_52 rfl ?_
  refine xs_bipush (v := 34) d205_53 (by decide) ?_
  rcases lk_if hf with ⟨hc4, hf⟩ | ⟨hc4, hf⟩
  · refine xs_icmp_ge (tgt := 87) d205_55 (by decide) (fun _ => ?_) (fun hn => absurd hc4 hn)
    refine xs_pick [0] rfl ?_
    obtain ⟨x0, hf, ex0⟩ := lk_up hf
    exact f_M_keepsAct_b87_ok hD hf (fun u0 e => K0 u0 (ex0.trans (congrArg Sum.inr e)))
  · refine xs_icmp_ge (tgt := 87) d205_55 (by decide) (fun hp => absurd hp hc4) (fun _ => ?_)
    refine xs_aload_n d205_58 rfl ?_
    refine xe_getc (j := 0) d205_59 ky205 fl184 fk12_23 rfl ?_
    refine xs_bipush (v := 34) d205_62 (by decide) ?_
    refine xs_aload_n d205_64 rfl ?_
    refine xe_geti d205_65 ky205 fl185 fk12_24 ?_
    refine xs_imul d205_68 ?_
    refine xs_iload_n d205_69 rfl ?_
    refine xs_iadd d205_70 ?_
    refine xs_aload_n d205_71 rfl ?_
    refine xe_getc (j := 0) d205_72 ky205 fl181 fk12_20 rfl ?_
    refine xs_bipush (v := 10) d205_75 (by decide) ?_
    refine xs_iload_n d205_77 rfl ?_
    refine xs_iadd d205_78 ?_
    obtain ⟨hin6, hf⟩ := lk_g hf
    refine xe_iald d205_79 (by decide) ak56 hin6 ?_
    obtain ⟨hin7, hf⟩ := lk_g hf
    obtain ⟨h8, eh8, hf⟩ := lk_let hf
    refine xe_iast d205_80 (by decide) ak57 hin7  eh8 ?_
    obtain ⟨v1_9, ev1_9, hf⟩ := lk_let hf
    refine xe_iinc (v := v1_9) (b := 1) (ls2 := [(0, xr 12 (some 0)), (1, xi v1_9)]) d205_81 mx205 (by decide) rfl (by decide) ev1_9 rfl ?_
    refine xs_goto (tgt := 52) d205_84 (by decide) ?_
    exact K1 _ _ (Option.some.inj hf).symm
noncomputable def f_M_keepsAct_l52 (v1 : Int32) (h : xH) : Option xH :=
  whl (fun s => f_M_keepsAct_s52 s.1 s.2) (v1, h)
theorem f_M_keepsAct_l52_ok {g : xG} {l : Launch} {d : Nat} {v1 : Int32} {h : xH} {o : xH} {R : Option xV} {H' : xH} (hD : 0 ≤ d) (hf : f_M_keepsAct_l52 v1 h = some o) (K0 : ∀ (h1 : xH), o = h1 → R = none ∧ H' = h1) : xEv g l d 205 52 [(0, xr 12 (some 0)), (1, xi v1)] [] h R H' := by
  obtain ⟨n, hn⟩ := whl_iff.mp hf
  clear hf
  induction n generalizing v1 h with
  | zero => cases hn
  | succ n ih =>
    obtain ⟨o2, hs, hn⟩ := lk_b (show (f_M_keepsAct_s52 v1 h).bind (fun o => Sum.elim (itn _ n) some o) = some o from hn)
    exact f_M_keepsAct_s52_ok hD hs (fun u0 u1 e => ih (by rw [e] at hn; exact hn)) (fun u0 e => K0 u0 (by rw [e] at hn; exact (Option.some.inj hn).symm))
noncomputable def f_M_keepsAct_b50 (h : xH) : Option xH :=
  f_M_keepsAct_l52 (0 : Int32) h
set_option maxHeartbeats 4000000 in
set_option maxRecDepth 100000 in
theorem f_M_keepsAct_b50_ok {g : xG} {l : Launch} {d : Nat} {h : xH} {o : xH} {R : Option xV} {H' : xH} (hD : 0 ≤ d) (hf : f_M_keepsAct_b50 h = some o) (K0 : ∀ (h1 : xH), o = h1 → R = none ∧ H' = h1) : xEv g l d 205 50 [(0, xr 12 (some 0))] [] h R H' := by
  unfold f_M_keepsAct_b50 at hf
  refine xs_iconst (v := 0) d205_50 (by decide) ?_
  refine xe_istore_n (v := (0 : Int32)) (ls2 := [(0, xr 12 (some 0)), (1, xi (0 : Int32))]) d205_51 mx205 (by decide) rfl rfl ?_
  exact f_M_keepsAct_l52_ok hD hf K0
noncomputable def f_M_keepsAct_b40 (h : xH) : Option xH :=
  xlet (xsI h 12 24 0 ((h.1 12 24 0) - (1 : Int32))) fun h3 =>
  f_M_keepsAct_b50 h3
set_option maxHeartbeats 4000000 in
set_option maxRecDepth 100000 in
theorem f_M_keepsAct_b40_ok {g : xG} {l : Launch} {d : Nat} {h : xH} {o : xH} {R : Option xV} {H' : xH} (hD : 0 ≤ d) (hf : f_M_keepsAct_b40 h = some o) (K0 : ∀ (h1 : xH), o = h1 → R = none ∧ H' = h1) : xEv g l d 205 40 [(0, xr 12 (some 0))] [] h R H' := by
  unfold f_M_keepsAct_b40 at hf
  refine xs_aload_n d205_40 rfl ?_
  refine xs_dup d205_41 rfl ?_
  refine xe_geti d205_42 ky205 fl185 fk12_24 ?_
  refine xs_iconst (v := 1) d205_45 (by decide) ?_
  refine xs_isub d205_46 ?_
  obtain ⟨h3, eh3, hf⟩ := lk_let hf
  refine xe_puti d205_47 ky205 fl185 fk12_24 ft12_24 eh3 ?_
  exact f_M_keepsAct_b50_ok hD hf K0
noncomputable def f_M_keepsAct_s12 (v1 : Int32) (h : xH) : Option ((Int32 × xH) ⊕ xH) :=
  if (680 : Int32) ≤ v1 then (
  xup (f_M_keepsAct_b40 h)) else (
  if xib v1 680 then (
  if xib (v1 - (34 : Int32)) 680 then (
  xlet (xsA h 57 0 (upd (h.2.2.2.1 57 0) (v1 - (34 : Int32)).toNatClampNeg (h.2.2.2.1 57 0 (v1).toNatClampNeg))) fun h12 =>
  xlet (v1 + (1 : Int32)) fun v1_13 =>
  some (Sum.inl (v1_13, h12))) else none) else none)
set_option maxHeartbeats 4000000 in
set_option maxRecDepth 100000 in
theorem f_M_keepsAct_s12_ok {g : xG} {l : Launch} {d : Nat} {v1 : Int32} {h : xH} {o : ((Int32 × xH) ⊕ xH)} {R : Option xV} {H' : xH} (hD : 0 ≤ d) (hf : f_M_keepsAct_s12 v1 h = some o) (K1 : ∀ (w1 : Int32) (h1 : xH), o = Sum.inl (w1, h1) → xEv g l d 205 12 [(0, xr 12 (some 0)), (1, xi w1)] [] h1 R H') (K0 : ∀ (h1 : xH), o = Sum.inr (h1) → R = none ∧ H' = h1) : xEv g l d 205 12 [(0, xr 12 (some 0)), (1, xi v1)] [] h R H' := by
  unfold f_M_keepsAct_s12 at hf
  refine xs_iload_n d205_12 rfl ?_
  refine xs_sipush (v := 680) d205_13 (by decide) ?_
  rcases lk_if hf with ⟨hc2, hf⟩ | ⟨hc2, hf⟩
  · refine xs_icmp_ge (tgt := 40) d205_16 (by decide) (fun _ => ?_) (fun hn => absurd hc2 hn)
    refine xs_pick [0] rfl ?_
    obtain ⟨x0, hf, ex0⟩ := lk_up hf
    exact f_M_keepsAct_b40_ok hD hf (fun u0 e => K0 u0 (ex0.trans (congrArg Sum.inr e)))
  · refine xs_icmp_ge (tgt := 40) d205_16 (by decide) (fun hp => absurd hp hc2) (fun _ => ?_)
    refine xs_aload_n d205_19 rfl ?_
    refine xe_getc (j := 0) d205_20 ky205 fl184 fk12_23 rfl ?_
    refine xs_iload_n d205_23 rfl ?_
    refine xs_bipush (v := 34) d205_24 (by decide) ?_
    refine xs_isub d205_26 ?_
    refine xs_aload_n d205_27 rfl ?_
    refine xe_getc (j := 0) d205_28 ky205 fl184 fk12_23 rfl ?_
    refine xs_iload_n d205_31 rfl ?_
    obtain ⟨hin10, hf⟩ := lk_g hf
    refine xe_iald d205_32 (by decide) ak57 hin10 ?_
    obtain ⟨hin11, hf⟩ := lk_g hf
    obtain ⟨h12, eh12, hf⟩ := lk_let hf
    refine xe_iast d205_33 (by decide) ak57 hin11  eh12 ?_
    obtain ⟨v1_13, ev1_13, hf⟩ := lk_let hf
    refine xe_iinc (v := v1_13) (b := 1) (ls2 := [(0, xr 12 (some 0)), (1, xi v1_13)]) d205_34 mx205 (by decide) rfl (by decide) ev1_13 rfl ?_
    refine xs_goto (tgt := 12) d205_37 (by decide) ?_
    exact K1 _ _ (Option.some.inj hf).symm
noncomputable def f_M_keepsAct_l12 (v1 : Int32) (h : xH) : Option xH :=
  whl (fun s => f_M_keepsAct_s12 s.1 s.2) (v1, h)
theorem f_M_keepsAct_l12_ok {g : xG} {l : Launch} {d : Nat} {v1 : Int32} {h : xH} {o : xH} {R : Option xV} {H' : xH} (hD : 0 ≤ d) (hf : f_M_keepsAct_l12 v1 h = some o) (K0 : ∀ (h1 : xH), o = h1 → R = none ∧ H' = h1) : xEv g l d 205 12 [(0, xr 12 (some 0)), (1, xi v1)] [] h R H' := by
  obtain ⟨n, hn⟩ := whl_iff.mp hf
  clear hf
  induction n generalizing v1 h with
  | zero => cases hn
  | succ n ih =>
    obtain ⟨o2, hs, hn⟩ := lk_b (show (f_M_keepsAct_s12 v1 h).bind (fun o => Sum.elim (itn _ n) some o) = some o from hn)
    exact f_M_keepsAct_s12_ok hD hs (fun u0 u1 e => ih (by rw [e] at hn; exact hn)) (fun u0 e => K0 u0 (by rw [e] at hn; exact (Option.some.inj hn).symm))
noncomputable def f_M_keepsAct_e (h : xH) : Option xH :=
  if (h.1 12 24 0) = (20 : Int32) then (
  f_M_keepsAct_l12 (34 : Int32) h) else (
  f_M_keepsAct_b50 h)
set_option maxHeartbeats 4000000 in
set_option maxRecDepth 100000 in
theorem f_M_keepsAct_e_ok {g : xG} {l : Launch} {d : Nat} {h : xH} {o : xH} {R : Option xV} {H' : xH} (hD : 0 ≤ d) (hf : f_M_keepsAct_e h = some o) (K0 : ∀ (h1 : xH), o = h1 → R = none ∧ H' = h1) : xEv g l d 205 0 [(0, xr 12 (some 0))] [] h R H' := by
  unfold f_M_keepsAct_e at hf
  refine xs_aload_n d205_0 rfl ?_
  refine xe_geti d205_1 ky205 fl185 fk12_24 ?_
  refine xs_bipush (v := 20) d205_4 (by decide) ?_
  rcases lk_if hf with ⟨hc1, hf⟩ | ⟨hc1, hf⟩
  · refine xs_icmp_ne (tgt := 50) d205_6 (by decide) (fun _ => ?_) (fun hn => absurd hc1 hn)
    refine xs_bipush (v := 34) d205_9 (by decide) ?_
    refine xe_istore_n (v := (34 : Int32)) (ls2 := [(0, xr 12 (some 0)), (1, xi (34 : Int32))]) d205_11 mx205 (by decide) rfl rfl ?_
    exact f_M_keepsAct_l12_ok hD hf K0
  · refine xs_icmp_ne (tgt := 50) d205_6 (by decide) (fun hp => absurd hp hc1) (fun _ => ?_)
    exact f_M_keepsAct_b50_ok hD hf K0
noncomputable def f_M_keepsAct (h : xH) : Option xH := f_M_keepsAct_e h
theorem f_M_keepsAct_ok {g : xG} {l : Launch} {d : Nat} {h : xH} {h1 : xH} (hD : 0 ≤ d) (hf : f_M_keepsAct h = some h1) : xC g l d 205 [xr 12 (some 0)] h none h1 :=
  xC_of2 (by decide) mx205 (Nat.le_of_ble_eq_true rfl) (f_M_keepsAct_e_ok hD hf (fun _ e => ⟨rfl, e⟩))
theorem d206_0 : decode (xcode 206) 0 = .ok (.aload_n 0, 1) := by decide +kernel
theorem d206_1 : decode (xcode 206) 1 = .ok (.getfield 272, 3) := by decide +kernel
theorem d206_4 : decode (xcode 206) 4 = .ok (.ifCond .ne 5, 3) := by decide +kernel
theorem d206_7 : decode (xcode 206) 7 = .ok (.iconst (-1), 1) := by decide +kernel
theorem d206_8 : decode (xcode 206) 8 = .ok (.ireturn, 1) := by decide +kernel
theorem d206_9 : decode (xcode 206) 9 = .ok (.aload_n 0, 1) := by decide +kernel
theorem d206_10 : decode (xcode 206) 10 = .ok (.dup, 1) := by decide +kernel
theorem d206_11 : decode (xcode 206) 11 = .ok (.getfield 272, 3) := by decide +kernel
theorem d206_14 : decode (xcode 206) 14 = .ok (.iconst 1, 1) := by decide +kernel
theorem d206_15 : decode (xcode 206) 15 = .ok (.isub, 1) := by decide +kernel
theorem d206_16 : decode (xcode 206) 16 = .ok (.putfield 272, 3) := by decide +kernel
theorem d206_19 : decode (xcode 206) 19 = .ok (.iconst 0, 1) := by decide +kernel
theorem d206_20 : decode (xcode 206) 20 = .ok (.istore_n 1, 1) := by decide +kernel
theorem d206_21 : decode (xcode 206) 21 = .ok (.iload_n 1, 1) := by decide +kernel
theorem d206_22 : decode (xcode 206) 22 = .ok (.bipush 34, 2) := by decide +kernel
theorem d206_24 : decode (xcode 206) 24 = .ok (.if_icmp .ge 32, 3) := by decide +kernel
theorem d206_27 : decode (xcode 206) 27 = .ok (.aload_n 0, 1) := by decide +kernel
theorem d206_28 : decode (xcode 206) 28 = .ok (.getfield 39, 3) := by decide +kernel
theorem d206_31 : decode (xcode 206) 31 = .ok (.bipush 10, 2) := by decide +kernel
theorem d206_33 : decode (xcode 206) 33 = .ok (.iload_n 1, 1) := by decide +kernel
theorem d206_34 : decode (xcode 206) 34 = .ok (.iadd, 1) := by decide +kernel
theorem d206_35 : decode (xcode 206) 35 = .ok (.aload_n 0, 1) := by decide +kernel
theorem d206_36 : decode (xcode 206) 36 = .ok (.getfield 46, 3) := by decide +kernel
theorem d206_39 : decode (xcode 206) 39 = .ok (.bipush 34, 2) := by decide +kernel
theorem d206_41 : decode (xcode 206) 41 = .ok (.aload_n 0, 1) := by decide +kernel
theorem d206_42 : decode (xcode 206) 42 = .ok (.getfield 272, 3) := by decide +kernel
theorem d206_45 : decode (xcode 206) 45 = .ok (.imul, 1) := by decide +kernel
theorem d206_46 : decode (xcode 206) 46 = .ok (.iload_n 1, 1) := by decide +kernel
theorem d206_47 : decode (xcode 206) 47 = .ok (.iadd, 1) := by decide +kernel
theorem d206_48 : decode (xcode 206) 48 = .ok (.iaload, 1) := by decide +kernel
theorem d206_49 : decode (xcode 206) 49 = .ok (.iastore, 1) := by decide +kernel
theorem d206_50 : decode (xcode 206) 50 = .ok (.iinc 1 1, 3) := by decide +kernel
theorem d206_53 : decode (xcode 206) 53 = .ok (.goto (-32), 3) := by decide +kernel
theorem d206_56 : decode (xcode 206) 56 = .ok (.aload_n 0, 1) := by decide +kernel
theorem d206_57 : decode (xcode 206) 57 = .ok (.getfield 272, 3) := by decide +kernel
theorem d206_60 : decode (xcode 206) 60 = .ok (.ireturn, 1) := by decide +kernel
noncomputable def f_M_undo_b56 (h : xH) : Option (Int32 × xH) :=
  some ((h.1 12 24 0, h))
set_option maxHeartbeats 4000000 in
set_option maxRecDepth 100000 in
theorem f_M_undo_b56_ok {g : xG} {l : Launch} {d : Nat} {h : xH} {o : (Int32 × xH)} {R : Option xV} {H' : xH} (hD : 0 ≤ d) (hf : f_M_undo_b56 h = some o) (K0 : ∀ (a : Int32) (h1 : xH), o = (a, h1) → R = some (xi a) ∧ H' = h1) : xEv g l d 206 56 [(0, xr 12 (some 0))] [] h R H' := by
  unfold f_M_undo_b56 at hf
  refine xs_aload_n d206_56 rfl ?_
  refine xe_geti d206_57 ky206 fl185 fk12_24 ?_
  obtain ⟨eR, eH⟩ := K0 _ _ (Option.some.inj hf).symm
  subst eR; subst eH
  exact xs_iret d206_60 rt206
noncomputable def f_M_undo_s21 (v1 : Int32) (h : xH) : Option ((Int32 × xH) ⊕ (Int32 × xH)) :=
  if (34 : Int32) ≤ v1 then (
  xup (f_M_undo_b56 h)) else (
  if xib (((34 : Int32) * (h.1 12 24 0)) + v1) 680 then (
  if xib ((10 : Int32) + v1) 101 then (
  xlet (xsA h 56 0 (upd (h.2.2.2.1 56 0) ((10 : Int32) + v1).toNatClampNeg (h.2.2.2.1 57 0 (((34 : Int32) * (h.1 12 24 0)) + v1).toNatClampNeg))) fun h6 =>
  xlet (v1 + (1 : Int32)) fun v1_7 =>
  some (Sum.inl (v1_7, h6))) else none) else none)
set_option maxHeartbeats 4000000 in
set_option maxRecDepth 100000 in
theorem f_M_undo_s21_ok {g : xG} {l : Launch} {d : Nat} {v1 : Int32} {h : xH} {o : ((Int32 × xH) ⊕ (Int32 × xH))} {R : Option xV} {H' : xH} (hD : 0 ≤ d) (hf : f_M_undo_s21 v1 h = some o) (K1 : ∀ (w1 : Int32) (h1 : xH), o = Sum.inl (w1, h1) → xEv g l d 206 21 [(0, xr 12 (some 0)), (1, xi w1)] [] h1 R H') (K0 : ∀ (a : Int32) (h1 : xH), o = Sum.inr ((a, h1)) → R = some (xi a) ∧ H' = h1) : xEv g l d 206 21 [(0, xr 12 (some 0)), (1, xi v1)] [] h R H' := by
  unfold f_M_undo_s21 at hf
  refine xs_iload_n d206_21 rfl ?_
  refine xs_bipush (v := 34) d206_22 (by decide) ?_
  rcases lk_if hf with ⟨hc3, hf⟩ | ⟨hc3, hf⟩
  · refine xs_icmp_ge (tgt := 56) d206_24 (by decide) (fun _ => ?_) (fun hn => absurd hc3 hn)
    refine xs_pick [0] rfl ?_
    obtain ⟨x0, hf, ex0⟩ := lk_up hf
    exact f_M_undo_b56_ok hD hf (fun u0 u1 e => K0 u0 u1 (ex0.trans (congrArg Sum.inr e)))
  · refine xs_icmp_ge (tgt := 56) d206_24 (by decide) (fun hp => absurd hp hc3) (fun _ => ?_)
    refine xs_aload_n d206_27 rfl ?_
    refine xe_getc (j := 0) d206_28 ky206 fl181 fk12_20 rfl ?_
    refine xs_bipush (v := 10) d206_31 (by decide) ?_
    refine xs_iload_n d206_33 rfl ?_
    refine xs_iadd d206_34 ?_
    refine xs_aload_n d206_35 rfl ?_
    refine xe_getc (j := 0) d206_36 ky206 fl184 fk12_23 rfl ?_
    refine xs_bipush (v := 34) d206_39 (by decide) ?_
    refine xs_aload_n d206_41 rfl ?_
    refine xe_geti d206_42 ky206 fl185 fk12_24 ?_
    refine xs_imul d206_45 ?_
    refine xs_iload_n d206_46 rfl ?_
    refine xs_iadd d206_47 ?_
    obtain ⟨hin4, hf⟩ := lk_g hf
    refine xe_iald d206_48 (by decide) ak57 hin4 ?_
    obtain ⟨hin5, hf⟩ := lk_g hf
    obtain ⟨h6, eh6, hf⟩ := lk_let hf
    refine xe_iast d206_49 (by decide) ak56 hin5  eh6 ?_
    obtain ⟨v1_7, ev1_7, hf⟩ := lk_let hf
    refine xe_iinc (v := v1_7) (b := 1) (ls2 := [(0, xr 12 (some 0)), (1, xi v1_7)]) d206_50 mx206 (by decide) rfl (by decide) ev1_7 rfl ?_
    refine xs_goto (tgt := 21) d206_53 (by decide) ?_
    exact K1 _ _ (Option.some.inj hf).symm
noncomputable def f_M_undo_l21 (v1 : Int32) (h : xH) : Option (Int32 × xH) :=
  whl (fun s => f_M_undo_s21 s.1 s.2) (v1, h)
theorem f_M_undo_l21_ok {g : xG} {l : Launch} {d : Nat} {v1 : Int32} {h : xH} {o : (Int32 × xH)} {R : Option xV} {H' : xH} (hD : 0 ≤ d) (hf : f_M_undo_l21 v1 h = some o) (K0 : ∀ (a : Int32) (h1 : xH), o = (a, h1) → R = some (xi a) ∧ H' = h1) : xEv g l d 206 21 [(0, xr 12 (some 0)), (1, xi v1)] [] h R H' := by
  obtain ⟨n, hn⟩ := whl_iff.mp hf
  clear hf
  induction n generalizing v1 h with
  | zero => cases hn
  | succ n ih =>
    obtain ⟨o2, hs, hn⟩ := lk_b (show (f_M_undo_s21 v1 h).bind (fun o => Sum.elim (itn _ n) some o) = some o from hn)
    exact f_M_undo_s21_ok hD hs (fun u0 u1 e => ih (by rw [e] at hn; exact hn)) (fun u0 u1 e => K0 u0 u1 (by rw [e] at hn; exact (Option.some.inj hn).symm))
noncomputable def f_M_undo_e (h : xH) : Option (Int32 × xH) :=
  if (h.1 12 24 0) = (0 : Int32) then (
  some (((-1 : Int32), h))) else (
  xlet (xsI h 12 24 0 ((h.1 12 24 0) - (1 : Int32))) fun h2 =>
  f_M_undo_l21 (0 : Int32) h2)
set_option maxHeartbeats 4000000 in
set_option maxRecDepth 100000 in
theorem f_M_undo_e_ok {g : xG} {l : Launch} {d : Nat} {h : xH} {o : (Int32 × xH)} {R : Option xV} {H' : xH} (hD : 0 ≤ d) (hf : f_M_undo_e h = some o) (K0 : ∀ (a : Int32) (h1 : xH), o = (a, h1) → R = some (xi a) ∧ H' = h1) : xEv g l d 206 0 [(0, xr 12 (some 0))] [] h R H' := by
  unfold f_M_undo_e at hf
  refine xs_aload_n d206_0 rfl ?_
  refine xe_geti d206_1 ky206 fl185 fk12_24 ?_
  rcases lk_if hf with ⟨hc1, hf⟩ | ⟨hc1, hf⟩
  · refine xs_if_ne (tgt := 9) d206_4 (by decide) (fun _ => ?_) (fun hn => absurd hc1 hn)
    refine xs_iconst (v := -1) d206_7 (by decide) ?_
    obtain ⟨eR, eH⟩ := K0 _ _ (Option.some.inj hf).symm
    subst eR; subst eH
    exact xs_iret d206_8 rt206
  · refine xs_if_ne (tgt := 9) d206_4 (by decide) (fun hp => absurd hp hc1) (fun _ => ?_)
    refine xs_aload_n d206_9 rfl ?_
    refine xs_dup d206_10 rfl ?_
    refine xe_geti d206_11 ky206 fl185 fk12_24 ?_
    refine xs_iconst (v := 1) d206_14 (by decide) ?_
    refine xs_isub d206_15 ?_
    obtain ⟨h2, eh2, hf⟩ := lk_let hf
    refine xe_puti d206_16 ky206 fl185 fk12_24 ft12_24 eh2 ?_
    refine xs_iconst (v := 0) d206_19 (by decide) ?_
    refine xe_istore_n (v := (0 : Int32)) (ls2 := [(0, xr 12 (some 0)), (1, xi (0 : Int32))]) d206_20 mx206 (by decide) rfl rfl ?_
    exact f_M_undo_l21_ok hD hf K0
noncomputable def f_M_undo (h : xH) : Option (Int32 × xH) := f_M_undo_e h
theorem f_M_undo_ok {g : xG} {l : Launch} {d : Nat} {h : xH} {r : Int32} {h1 : xH} (hD : 0 ≤ d) (hf : f_M_undo h = some (r, h1)) : xC g l d 206 [xr 12 (some 0)] h (some (xi r)) h1 :=
  xC_of2 (by decide) mx206 (Nat.le_of_ble_eq_true rfl) (f_M_undo_e_ok hD hf (fun _ _ e => by cases e; exact ⟨rfl, rfl⟩))
theorem d207_0 : decode (xcode 207) 0 = .ok (.aload_n 0, 1) := by decide +kernel
theorem d207_1 : decode (xcode 207) 1 = .ok (.invokevirtual 349, 3) := by decide +kernel
theorem d207_4 : decode (xcode 207) 4 = .ok (.ifCond .eq 16, 3) := by decide +kernel
theorem d207_7 : decode (xcode 207) 7 = .ok (.aload_n 0, 1) := by decide +kernel
theorem d207_8 : decode (xcode 207) 8 = .ok (.getfield 39, 3) := by decide +kernel
theorem d207_11 : decode (xcode 207) 11 = .ok (.bipush 11, 2) := by decide +kernel
theorem d207_13 : decode (xcode 207) 13 = .ok (.iaload, 1) := by decide +kernel
theorem d207_14 : decode (xcode 207) 14 = .ok (.sipush 999, 3) := by decide +kernel
theorem d207_17 : decode (xcode 207) 17 = .ok (.if_icmp .ne 5, 3) := by decide +kernel
theorem d207_20 : decode (xcode 207) 20 = .ok (.iconst (-1), 1) := by decide +kernel
theorem d207_21 : decode (xcode 207) 21 = .ok (.ireturn, 1) := by decide +kernel
theorem d207_22 : decode (xcode 207) 22 = .ok (.aload_n 0, 1) := by decide +kernel
theorem d207_23 : decode (xcode 207) 23 = .ok (.invokevirtual 352, 3) := by decide +kernel
theorem d207_26 : decode (xcode 207) 26 = .ok (.aload_n 0, 1) := by decide +kernel
theorem d207_27 : decode (xcode 207) 27 = .ok (.invokevirtual 346, 3) := by decide +kernel
theorem d207_30 : decode (xcode 207) 30 = .ok (.istore_n 1, 1) := by decide +kernel
theorem d207_31 : decode (xcode 207) 31 = .ok (.iload_n 1, 1) := by decide +kernel
theorem d207_32 : decode (xcode 207) 32 = .ok (.ifCond .ge 8, 3) := by decide +kernel
theorem d207_35 : decode (xcode 207) 35 = .ok (.bipush (-2), 2) := by decide +kernel
theorem d207_37 : decode (xcode 207) 37 = .ok (.goto 4, 3) := by decide +kernel
theorem d207_40 : decode (xcode 207) 40 = .ok (.iload_n 1, 1) := by decide +kernel
theorem d207_41 : decode (xcode 207) 41 = .ok (.ireturn, 1) := by decide +kernel
noncomputable def f_M_step_e (h : xH) : Option (Int32 × xH) :=
  (f_M_isTrug h).bind fun r1 =>
  if r1 = (0 : Int32) then (
  some (((-1 : Int32), h))) else (
  if (h.2.2.2.1 56 0 ((11 : Int32)).toNatClampNeg) = (999 : Int32) then (
  some (((-1 : Int32), h))) else (
  (f_M_keepsAct h).bind fun h7 =>
  (f_M_passes h7).bind fun q10 =>
  if (0 : Int32) ≤ q10.1 then (
  some ((q10.1, q10.2))) else (
  some (((-2 : Int32), q10.2)))))
set_option maxHeartbeats 4000000 in
set_option maxRecDepth 100000 in
theorem f_M_step_e_ok {g : xG} {l : Launch} {d : Nat} {h : xH} {o : (Int32 × xH)} {R : Option xV} {H' : xH} (hD : 8 ≤ d) (hf : f_M_step_e h = some o) (K0 : ∀ (a : Int32) (h1 : xH), o = (a, h1) → R = some (xi a) ∧ H' = h1) : xEv g l d 207 0 [(0, xr 12 (some 0))] [] h R H' := by
  unfold f_M_step_e at hf
  refine xs_aload_n d207_0 rfl ?_
  obtain ⟨r1, hc2, hf⟩ := lk_b hf
  refine xe_callv1 (as := []) (st := []) (h2 := h) (d2 := d - 1) d207_1 ky207 ml225 st184 (by decide) cn184 rfl na184 (Nat.le_of_ble_eq_true rfl) (by omega) (f_M_isTrug_ok (by omega) hc2) ?_
  rcases lk_if hf with ⟨hc3, hf⟩ | ⟨hc3, hf⟩
  · refine xs_if_eq (tgt := 20) d207_4 (by decide) (fun _ => ?_) (fun hn => absurd hc3 hn)
    refine xs_iconst (v := -1) d207_20 (by decide) ?_
    obtain ⟨eR, eH⟩ := K0 _ _ (Option.some.inj hf).symm
    subst eR; subst eH
    exact xs_iret d207_21 rt207
  · refine xs_if_eq (tgt := 20) d207_4 (by decide) (fun hp => absurd hp hc3) (fun _ => ?_)
    refine xs_aload_n d207_7 rfl ?_
    refine xe_getc (j := 0) d207_8 ky207 fl181 fk12_20 rfl ?_
    refine xs_bipush (v := 11) d207_11 (by decide) ?_
    refine xe_iald d207_13 (by decide) ak56 (show xib (11 : Int32) 101 by decide) ?_
    refine xs_sipush (v := 999) d207_14 (by decide) ?_
    rcases lk_if hf with ⟨hc4, hf⟩ | ⟨hc4, hf⟩
    · refine xs_icmp_ne (tgt := 22) d207_17 (by decide) (fun _ => ?_) (fun hn => absurd hc4 hn)
      refine xs_iconst (v := -1) d207_20 (by decide) ?_
      obtain ⟨eR, eH⟩ := K0 _ _ (Option.some.inj hf).symm
      subst eR; subst eH
      exact xs_iret d207_21 rt207
    · refine xs_icmp_ne (tgt := 22) d207_17 (by decide) (fun hp => absurd hp hc4) (fun _ => ?_)
      refine xs_aload_n d207_22 rfl ?_
      obtain ⟨h7, hc6, hf⟩ := lk_b hf
      refine xe_callv0 (as := []) (st := []) (h2 := h7) (d2 := d - 1) d207_23 ky207 ml226 st205 (by decide) cn205 rfl na205 (Nat.le_of_ble_eq_true rfl) (by omega) (f_M_keepsAct_ok (by omega) hc6) ?_
      refine xs_aload_n d207_26 rfl ?_
      obtain ⟨q10, hc9, hf⟩ := lk_b hf
      refine xe_callv1 (as := []) (st := []) (h2 := q10.2) (d2 := d - 1) d207_27 ky207 ml227 st203 (by decide) cn203 rfl na203 (Nat.le_of_ble_eq_true rfl) (by omega) (f_M_passes_ok (by omega) hc9) ?_
      refine xe_istore_n (v := q10.1) (ls2 := [(0, xr 12 (some 0)), (1, xi q10.1)]) d207_30 mx207 (by decide) rfl rfl ?_
      refine xs_iload_n d207_31 rfl ?_
      rcases lk_if hf with ⟨hc11, hf⟩ | ⟨hc11, hf⟩
      · refine xs_if_ge (tgt := 40) d207_32 (by decide) (fun _ => ?_) (fun hn => absurd hc11 hn)
        refine xs_iload_n d207_40 rfl ?_
        obtain ⟨eR, eH⟩ := K0 _ _ (Option.some.inj hf).symm
        subst eR; subst eH
        exact xs_iret d207_41 rt207
      · refine xs_if_ge (tgt := 40) d207_32 (by decide) (fun hp => absurd hp hc11) (fun _ => ?_)
        refine xs_bipush (v := -2) d207_35 (by decide) ?_
        refine xs_goto (tgt := 41) d207_37 (by decide) ?_
        obtain ⟨eR, eH⟩ := K0 _ _ (Option.some.inj hf).symm
        subst eR; subst eH
        exact xs_iret d207_41 rt207
noncomputable def f_M_step (h : xH) : Option (Int32 × xH) := f_M_step_e h
theorem f_M_step_ok {g : xG} {l : Launch} {d : Nat} {h : xH} {r : Int32} {h1 : xH} (hD : 8 ≤ d) (hf : f_M_step h = some (r, h1)) : xC g l d 207 [xr 12 (some 0)] h (some (xi r)) h1 :=
  xC_of2 (by decide) mx207 (Nat.le_of_ble_eq_true rfl) (f_M_step_e_ok hD hf (fun _ _ e => by cases e; exact ⟨rfl, rfl⟩))
theorem d208_0 : decode (xcode 208) 0 = .ok (.aload_n 0, 1) := by decide +kernel
theorem d208_1 : decode (xcode 208) 1 = .ok (.iload_n 1, 1) := by decide +kernel
theorem d208_2 : decode (xcode 208) 2 = .ok (.invokevirtual 298, 3) := by decide +kernel
theorem d208_5 : decode (xcode 208) 5 = .ok (.ifCond .ne 5, 3) := by decide +kernel
theorem d208_8 : decode (xcode 208) 8 = .ok (.iconst (-1), 1) := by decide +kernel
theorem d208_9 : decode (xcode 208) 9 = .ok (.ireturn, 1) := by decide +kernel
theorem d208_10 : decode (xcode 208) 10 = .ok (.aload_n 0, 1) := by decide +kernel
theorem d208_11 : decode (xcode 208) 11 = .ok (.invokevirtual 352, 3) := by decide +kernel
theorem d208_14 : decode (xcode 208) 14 = .ok (.aload_n 0, 1) := by decide +kernel
theorem d208_15 : decode (xcode 208) 15 = .ok (.iload_n 1, 1) := by decide +kernel
theorem d208_16 : decode (xcode 208) 16 = .ok (.invokevirtual 343, 3) := by decide +kernel
theorem d208_19 : decode (xcode 208) 19 = .ok (.aload_n 0, 1) := by decide +kernel
theorem d208_20 : decode (xcode 208) 20 = .ok (.getfield 39, 3) := by decide +kernel
theorem d208_23 : decode (xcode 208) 23 = .ok (.bipush 10, 2) := by decide +kernel
theorem d208_25 : decode (xcode 208) 25 = .ok (.iaload, 1) := by decide +kernel
theorem d208_26 : decode (xcode 208) 26 = .ok (.ireturn, 1) := by decide +kernel
noncomputable def f_M_take_e (v1 : Int32) (h : xH) : Option (Int32 × xH) :=
  (f_M_isLoose v1 h).bind fun r1 =>
  if r1 = (0 : Int32) then (
  some (((-1 : Int32), h))) else (
  (f_M_keepsAct h).bind fun h6 =>
  (f_M_lifts v1 h6).bind fun h9 =>
  some ((h9.2.2.2.1 56 0 ((10 : Int32)).toNatClampNeg, h9)))
set_option maxHeartbeats 4000000 in
set_option maxRecDepth 100000 in
theorem f_M_take_e_ok {g : xG} {l : Launch} {d : Nat} {v1 : Int32} {h : xH} {o : (Int32 × xH)} {R : Option xV} {H' : xH} (hD : 4 ≤ d) (hf : f_M_take_e v1 h = some o) (K0 : ∀ (a : Int32) (h1 : xH), o = (a, h1) → R = some (xi a) ∧ H' = h1) : xEv g l d 208 0 [(0, xr 12 (some 0)), (1, xi v1)] [] h R H' := by
  unfold f_M_take_e at hf
  refine xs_aload_n d208_0 rfl ?_
  refine xs_iload_n d208_1 rfl ?_
  obtain ⟨r1, hc2, hf⟩ := lk_b hf
  refine xe_callv1 (as := [xi v1]) (st := []) (h2 := h) (d2 := d - 1) d208_2 ky208 ml229 st188 (by decide) cn188 rfl na188 (Nat.le_of_ble_eq_true rfl) (by omega) (f_M_isLoose_ok (by omega) hc2) ?_
  rcases lk_if hf with ⟨hc3, hf⟩ | ⟨hc3, hf⟩
  · refine xs_if_ne (tgt := 10) d208_5 (by decide) (fun _ => ?_) (fun hn => absurd hc3 hn)
    refine xs_iconst (v := -1) d208_8 (by decide) ?_
    obtain ⟨eR, eH⟩ := K0 _ _ (Option.some.inj hf).symm
    subst eR; subst eH
    exact xs_iret d208_9 rt208
  · refine xs_if_ne (tgt := 10) d208_5 (by decide) (fun hp => absurd hp hc3) (fun _ => ?_)
    refine xs_aload_n d208_10 rfl ?_
    obtain ⟨h6, hc5, hf⟩ := lk_b hf
    refine xe_callv0 (as := []) (st := []) (h2 := h6) (d2 := d - 1) d208_11 ky208 ml226 st205 (by decide) cn205 rfl na205 (Nat.le_of_ble_eq_true rfl) (by omega) (f_M_keepsAct_ok (by omega) hc5) ?_
    refine xs_aload_n d208_14 rfl ?_
    refine xs_iload_n d208_15 rfl ?_
    obtain ⟨h9, hc8, hf⟩ := lk_b hf
    refine xe_callv0 (as := [xi v1]) (st := []) (h2 := h9) (d2 := d - 1) d208_16 ky208 ml246 st202 (by decide) cn202 rfl na202 (Nat.le_of_ble_eq_true rfl) (by omega) (f_M_lifts_ok (by omega) hc8) ?_
    refine xs_aload_n d208_19 rfl ?_
    refine xe_getc (j := 0) d208_20 ky208 fl181 fk12_20 rfl ?_
    refine xs_bipush (v := 10) d208_23 (by decide) ?_
    refine xe_iald d208_25 (by decide) ak56 (show xib (10 : Int32) 101 by decide) ?_
    obtain ⟨eR, eH⟩ := K0 _ _ (Option.some.inj hf).symm
    subst eR; subst eH
    exact xs_iret d208_26 rt208
noncomputable def f_M_take (v1 : Int32) (h : xH) : Option (Int32 × xH) := f_M_take_e v1 h
theorem f_M_take_ok {g : xG} {l : Launch} {d : Nat} {v1 : Int32} {h : xH} {r : Int32} {h1 : xH} (hD : 4 ≤ d) (hf : f_M_take v1 h = some (r, h1)) : xC g l d 208 [xr 12 (some 0), xi v1] h (some (xi r)) h1 :=
  xC_of2 (by decide) mx208 (Nat.le_of_ble_eq_true rfl) (f_M_take_e_ok hD hf (fun _ _ e => by cases e; exact ⟨rfl, rfl⟩))
theorem d209_0 : decode (xcode 209) 0 = .ok (.aload_n 0, 1) := by decide +kernel
theorem d209_1 : decode (xcode 209) 1 = .ok (.invokevirtual 349, 3) := by decide +kernel
theorem d209_4 : decode (xcode 209) 4 = .ok (.ifCond .eq 30, 3) := by decide +kernel
theorem d209_7 : decode (xcode 209) 7 = .ok (.iload_n 1, 1) := by decide +kernel
theorem d209_8 : decode (xcode 209) 8 = .ok (.i2l, 1) := by decide +kernel
theorem d209_9 : decode (xcode 209) 9 = .ok (.lconst 1, 1) := by decide +kernel
theorem d209_10 : decode (xcode 209) 10 = .ok (.ldc2_w 355, 3) := by decide +kernel
theorem d209_13 : decode (xcode 209) 13 = .ok (.invokestatic 124, 3) := by decide +kernel
theorem d209_16 : decode (xcode 209) 16 = .ok (.ifCond .eq 18, 3) := by decide +kernel
theorem d209_19 : decode (xcode 209) 19 = .ok (.aload_n 0, 1) := by decide +kernel
theorem d209_20 : decode (xcode 209) 20 = .ok (.getfield 39, 3) := by decide +kernel
theorem d209_23 : decode (xcode 209) 23 = .ok (.bipush 10, 2) := by decide +kernel
theorem d209_25 : decode (xcode 209) 25 = .ok (.iaload, 1) := by decide +kernel
theorem d209_26 : decode (xcode 209) 26 = .ok (.iload_n 1, 1) := by decide +kernel
theorem d209_27 : decode (xcode 209) 27 = .ok (.iadd, 1) := by decide +kernel
theorem d209_28 : decode (xcode 209) 28 = .ok (.sipush 9999, 3) := by decide +kernel
theorem d209_31 : decode (xcode 209) 31 = .ok (.if_icmp .le 5, 3) := by decide +kernel
theorem d209_34 : decode (xcode 209) 34 = .ok (.iconst (-1), 1) := by decide +kernel
theorem d209_35 : decode (xcode 209) 35 = .ok (.ireturn, 1) := by decide +kernel
theorem d209_36 : decode (xcode 209) 36 = .ok (.aload_n 0, 1) := by decide +kernel
theorem d209_37 : decode (xcode 209) 37 = .ok (.invokevirtual 352, 3) := by decide +kernel
theorem d209_40 : decode (xcode 209) 40 = .ok (.aload_n 0, 1) := by decide +kernel
theorem d209_41 : decode (xcode 209) 41 = .ok (.iload_n 1, 1) := by decide +kernel
theorem d209_42 : decode (xcode 209) 42 = .ok (.invokevirtual 337, 3) := by decide +kernel
theorem d209_45 : decode (xcode 209) 45 = .ok (.aload_n 0, 1) := by decide +kernel
theorem d209_46 : decode (xcode 209) 46 = .ok (.getfield 39, 3) := by decide +kernel
theorem d209_49 : decode (xcode 209) 49 = .ok (.bipush 10, 2) := by decide +kernel
theorem d209_51 : decode (xcode 209) 51 = .ok (.iaload, 1) := by decide +kernel
theorem d209_52 : decode (xcode 209) 52 = .ok (.ireturn, 1) := by decide +kernel
noncomputable def f_M_await_e (v1 : Int32) (h : xH) : Option (Int32 × xH) :=
  (f_M_isTrug h).bind fun r1 =>
  if r1 = (0 : Int32) then (
  some (((-1 : Int32), h))) else (
  (f_M_in ((v1).toInt64) (1 : Int64) (60 : Int64) h).bind fun r4 =>
  if r4 = (0 : Int32) then (
  some (((-1 : Int32), h))) else (
  if ((h.2.2.2.1 56 0 ((10 : Int32)).toNatClampNeg) + v1) ≤ (9999 : Int32) then (
  (f_M_keepsAct h).bind fun h10 =>
  (f_M_goesBy v1 h10).bind fun h13 =>
  some ((h13.2.2.2.1 56 0 ((10 : Int32)).toNatClampNeg, h13))) else (
  some (((-1 : Int32), h)))))
set_option maxHeartbeats 4000000 in
set_option maxRecDepth 100000 in
theorem f_M_await_e_ok {g : xG} {l : Launch} {d : Nat} {v1 : Int32} {h : xH} {o : (Int32 × xH)} {R : Option xV} {H' : xH} (hD : 1 ≤ d) (hf : f_M_await_e v1 h = some o) (K0 : ∀ (a : Int32) (h1 : xH), o = (a, h1) → R = some (xi a) ∧ H' = h1) : xEv g l d 209 0 [(0, xr 12 (some 0)), (1, xi v1)] [] h R H' := by
  unfold f_M_await_e at hf
  refine xs_aload_n d209_0 rfl ?_
  obtain ⟨r1, hc2, hf⟩ := lk_b hf
  refine xe_callv1 (as := []) (st := []) (h2 := h) (d2 := d - 1) d209_1 ky209 ml225 st184 (by decide) cn184 rfl na184 (Nat.le_of_ble_eq_true rfl) (by omega) (f_M_isTrug_ok (by omega) hc2) ?_
  rcases lk_if hf with ⟨hc3, hf⟩ | ⟨hc3, hf⟩
  · refine xs_if_eq (tgt := 34) d209_4 (by decide) (fun _ => ?_) (fun hn => absurd hc3 hn)
    refine xs_iconst (v := -1) d209_34 (by decide) ?_
    obtain ⟨eR, eH⟩ := K0 _ _ (Option.some.inj hf).symm
    subst eR; subst eH
    exact xs_iret d209_35 rt209
  · refine xs_if_eq (tgt := 34) d209_4 (by decide) (fun hp => absurd hp hc3) (fun _ => ?_)
    refine xs_iload_n d209_7 rfl ?_
    refine xs_i2l d209_8 ?_
    refine xs_lconst (v := 1) d209_9 (by decide) ?_
    refine xs_ldc2 (v := 60) d209_10 cl12_355 ?_
    obtain ⟨r4, hc5, hf⟩ := lk_b hf
    refine xe_calls1 (as := [xl ((v1).toInt64), xl (1 : Int64), xl (60 : Int64)]) (st := []) (h2 := h) (d2 := d - 1) d209_13 ky209 ml196 st139 rfl na139 (Nat.le_of_ble_eq_true rfl) (by omega) (f_M_in_ok (by omega) hc5) ?_
    rcases lk_if hf with ⟨hc6, hf⟩ | ⟨hc6, hf⟩
    · refine xs_if_eq (tgt := 34) d209_16 (by decide) (fun _ => ?_) (fun hn => absurd hc6 hn)
      refine xs_iconst (v := -1) d209_34 (by decide) ?_
      obtain ⟨eR, eH⟩ := K0 _ _ (Option.some.inj hf).symm
      subst eR; subst eH
      exact xs_iret d209_35 rt209
    · refine xs_if_eq (tgt := 34) d209_16 (by decide) (fun hp => absurd hp hc6) (fun _ => ?_)
      refine xs_aload_n d209_19 rfl ?_
      refine xe_getc (j := 0) d209_20 ky209 fl181 fk12_20 rfl ?_
      refine xs_bipush (v := 10) d209_23 (by decide) ?_
      refine xe_iald d209_25 (by decide) ak56 (show xib (10 : Int32) 101 by decide) ?_
      refine xs_iload_n d209_26 rfl ?_
      refine xs_iadd d209_27 ?_
      refine xs_sipush (v := 9999) d209_28 (by decide) ?_
      rcases lk_if hf with ⟨hc7, hf⟩ | ⟨hc7, hf⟩
      · refine xs_icmp_le (tgt := 36) d209_31 (by decide) (fun _ => ?_) (fun hn => absurd hc7 hn)
        refine xs_aload_n d209_36 rfl ?_
        obtain ⟨h10, hc9, hf⟩ := lk_b hf
        refine xe_callv0 (as := []) (st := []) (h2 := h10) (d2 := d - 1) d209_37 ky209 ml226 st205 (by decide) cn205 rfl na205 (Nat.le_of_ble_eq_true rfl) (by omega) (f_M_keepsAct_ok (by omega) hc9) ?_
        refine xs_aload_n d209_40 rfl ?_
        refine xs_iload_n d209_41 rfl ?_
        obtain ⟨h13, hc12, hf⟩ := lk_b hf
        refine xe_callv0 (as := [xi v1]) (st := []) (h2 := h13) (d2 := d - 1) d209_42 ky209 ml245 st201 (by decide) cn201 rfl na201 (Nat.le_of_ble_eq_true rfl) (by omega) (f_M_goesBy_ok (by omega) hc12) ?_
        refine xs_aload_n d209_45 rfl ?_
        refine xe_getc (j := 0) d209_46 ky209 fl181 fk12_20 rfl ?_
        refine xs_bipush (v := 10) d209_49 (by decide) ?_
        refine xe_iald d209_51 (by decide) ak56 (show xib (10 : Int32) 101 by decide) ?_
        obtain ⟨eR, eH⟩ := K0 _ _ (Option.some.inj hf).symm
        subst eR; subst eH
        exact xs_iret d209_52 rt209
      · refine xs_icmp_le (tgt := 36) d209_31 (by decide) (fun hp => absurd hp hc7) (fun _ => ?_)
        refine xs_iconst (v := -1) d209_34 (by decide) ?_
        obtain ⟨eR, eH⟩ := K0 _ _ (Option.some.inj hf).symm
        subst eR; subst eH
        exact xs_iret d209_35 rt209
noncomputable def f_M_await (v1 : Int32) (h : xH) : Option (Int32 × xH) := f_M_await_e v1 h
theorem f_M_await_ok {g : xG} {l : Launch} {d : Nat} {v1 : Int32} {h : xH} {r : Int32} {h1 : xH} (hD : 1 ≤ d) (hf : f_M_await v1 h = some (r, h1)) : xC g l d 209 [xr 12 (some 0), xi v1] h (some (xi r)) h1 :=
  xC_of2 (by decide) mx209 (Nat.le_of_ble_eq_true rfl) (f_M_await_e_ok hD hf (fun _ _ e => by cases e; exact ⟨rfl, rfl⟩))
theorem d210_0 : decode (xcode 210) 0 = .ok (.aload_n 0, 1) := by decide +kernel
theorem d210_1 : decode (xcode 210) 1 = .ok (.iload_n 1, 1) := by decide +kernel
theorem d210_2 : decode (xcode 210) 2 = .ok (.invokevirtual 293, 3) := by decide +kernel
theorem d210_5 : decode (xcode 210) 5 = .ok (.ifCond .eq 16, 3) := by decide +kernel
theorem d210_8 : decode (xcode 210) 8 = .ok (.aload_n 0, 1) := by decide +kernel
theorem d210_9 : decode (xcode 210) 9 = .ok (.iload_n 2, 1) := by decide +kernel
theorem d210_10 : decode (xcode 210) 10 = .ok (.invokevirtual 293, 3) := by decide +kernel
theorem d210_13 : decode (xcode 210) 13 = .ok (.ifCond .eq 8, 3) := by decide +kernel
theorem d210_16 : decode (xcode 210) 16 = .ok (.iload_n 1, 1) := by decide +kernel
theorem d210_17 : decode (xcode 210) 17 = .ok (.iload_n 2, 1) := by decide +kernel
theorem d210_18 : decode (xcode 210) 18 = .ok (.if_icmp .ne 5, 3) := by decide +kernel
theorem d210_21 : decode (xcode 210) 21 = .ok (.iconst (-1), 1) := by decide +kernel
theorem d210_22 : decode (xcode 210) 22 = .ok (.ireturn, 1) := by decide +kernel
theorem d210_23 : decode (xcode 210) 23 = .ok (.aload_n 0, 1) := by decide +kernel
theorem d210_24 : decode (xcode 210) 24 = .ok (.invokevirtual 352, 3) := by decide +kernel
theorem d210_27 : decode (xcode 210) 27 = .ok (.aload_n 0, 1) := by decide +kernel
theorem d210_28 : decode (xcode 210) 28 = .ok (.getfield 39, 3) := by decide +kernel
theorem d210_31 : decode (xcode 210) 31 = .ok (.bipush 36, 2) := by decide +kernel
theorem d210_33 : decode (xcode 210) 33 = .ok (.iload_n 1, 1) := by decide +kernel
theorem d210_34 : decode (xcode 210) 34 = .ok (.iadd, 1) := by decide +kernel
theorem d210_35 : decode (xcode 210) 35 = .ok (.dup2, 1) := by decide +kernel
theorem d210_36 : decode (xcode 210) 36 = .ok (.iaload, 1) := by decide +kernel
theorem d210_37 : decode (xcode 210) 37 = .ok (.iconst 1, 1) := by decide +kernel
theorem d210_38 : decode (xcode 210) 38 = .ok (.iload_n 2, 1) := by decide +kernel
theorem d210_39 : decode (xcode 210) 39 = .ok (.ishl, 1) := by decide +kernel
theorem d210_40 : decode (xcode 210) 40 = .ok (.ixor, 1) := by decide +kernel
theorem d210_41 : decode (xcode 210) 41 = .ok (.iastore, 1) := by decide +kernel
theorem d210_42 : decode (xcode 210) 42 = .ok (.aload_n 0, 1) := by decide +kernel
theorem d210_43 : decode (xcode 210) 43 = .ok (.getfield 39, 3) := by decide +kernel
theorem d210_46 : decode (xcode 210) 46 = .ok (.bipush 36, 2) := by decide +kernel
theorem d210_48 : decode (xcode 210) 48 = .ok (.iload_n 1, 1) := by decide +kernel
theorem d210_49 : decode (xcode 210) 49 = .ok (.iadd, 1) := by decide +kernel
theorem d210_50 : decode (xcode 210) 50 = .ok (.iaload, 1) := by decide +kernel
theorem d210_51 : decode (xcode 210) 51 = .ok (.iload_n 2, 1) := by decide +kernel
theorem d210_52 : decode (xcode 210) 52 = .ok (.ishr, 1) := by decide +kernel
theorem d210_53 : decode (xcode 210) 53 = .ok (.iconst 1, 1) := by decide +kernel
theorem d210_54 : decode (xcode 210) 54 = .ok (.iand, 1) := by decide +kernel
theorem d210_55 : decode (xcode 210) 55 = .ok (.ireturn, 1) := by decide +kernel
noncomputable def f_M_lay_e (v1 : Int32) (v2 : Int32) (h : xH) : Option (Int32 × xH) :=
  (f_M_isInside_i v1 h).bind fun r1 =>
  if r1 = (0 : Int32) then (
  some (((-1 : Int32), h))) else (
  (f_M_isInside_i v2 h).bind fun r4 =>
  if r4 = (0 : Int32) then (
  some (((-1 : Int32), h))) else (
  if v1 = v2 then (
  some (((-1 : Int32), h))) else (
  (f_M_keepsAct h).bind fun h10 =>
  if xib ((36 : Int32) + v1) 101 then (
  if xib ((36 : Int32) + v1) 101 then (
  xlet (xsA h10 56 0 (upd (h10.2.2.2.1 56 0) ((36 : Int32) + v1).toNatClampNeg ((h10.2.2.2.1 56 0 ((36 : Int32) + v1).toNatClampNeg) ^^^ ((1 : Int32) <<< (v2 &&& 31))))) fun h13 =>
  if xib ((36 : Int32) + v1) 101 then (
  some ((((h13.2.2.2.1 56 0 ((36 : Int32) + v1).toNatClampNeg) >>> (v2 &&& 31)) &&& (1 : Int32), h13))) else none) else none) else none)))
set_option maxHeartbeats 4000000 in
set_option maxRecDepth 100000 in
theorem f_M_lay_e_ok {g : xG} {l : Launch} {d : Nat} {v1 : Int32} {v2 : Int32} {h : xH} {o : (Int32 × xH)} {R : Option xV} {H' : xH} (hD : 2 ≤ d) (hf : f_M_lay_e v1 v2 h = some o) (K0 : ∀ (a : Int32) (h1 : xH), o = (a, h1) → R = some (xi a) ∧ H' = h1) : xEv g l d 210 0 [(0, xr 12 (some 0)), (1, xi v1), (2, xi v2)] [] h R H' := by
  unfold f_M_lay_e at hf
  refine xs_aload_n d210_0 rfl ?_
  refine xs_iload_n d210_1 rfl ?_
  obtain ⟨r1, hc2, hf⟩ := lk_b hf
  refine xe_callv1 (as := [xi v1]) (st := []) (h2 := h) (d2 := d - 1) d210_2 ky210 ml230 st186 (by decide) cn186 rfl na186 (Nat.le_of_ble_eq_true rfl) (by omega) (f_M_isInside_i_ok (by omega) hc2) ?_
  rcases lk_if hf with ⟨hc3, hf⟩ | ⟨hc3, hf⟩
  · refine xs_if_eq (tgt := 21) d210_5 (by decide) (fun _ => ?_) (fun hn => absurd hc3 hn)
    refine xs_iconst (v := -1) d210_21 (by decide) ?_
    obtain ⟨eR, eH⟩ := K0 _ _ (Option.some.inj hf).symm
    subst eR; subst eH
    exact xs_iret d210_22 rt210
  · refine xs_if_eq (tgt := 21) d210_5 (by decide) (fun hp => absurd hp hc3) (fun _ => ?_)
    refine xs_aload_n d210_8 rfl ?_
    refine xs_iload_n d210_9 rfl ?_
    obtain ⟨r4, hc5, hf⟩ := lk_b hf
    refine xe_callv1 (as := [xi v2]) (st := []) (h2 := h) (d2 := d - 1) d210_10 ky210 ml230 st186 (by decide) cn186 rfl na186 (Nat.le_of_ble_eq_true rfl) (by omega) (f_M_isInside_i_ok (by omega) hc5) ?_
    rcases lk_if hf with ⟨hc6, hf⟩ | ⟨hc6, hf⟩
    · refine xs_if_eq (tgt := 21) d210_13 (by decide) (fun _ => ?_) (fun hn => absurd hc6 hn)
      refine xs_iconst (v := -1) d210_21 (by decide) ?_
      obtain ⟨eR, eH⟩ := K0 _ _ (Option.some.inj hf).symm
      subst eR; subst eH
      exact xs_iret d210_22 rt210
    · refine xs_if_eq (tgt := 21) d210_13 (by decide) (fun hp => absurd hp hc6) (fun _ => ?_)
      refine xs_iload_n d210_16 rfl ?_
      refine xs_iload_n d210_17 rfl ?_
      rcases lk_if hf with ⟨hc7, hf⟩ | ⟨hc7, hf⟩
      · refine xs_icmp_ne (tgt := 23) d210_18 (by decide) (fun _ => ?_) (fun hn => absurd hc7 hn)
        refine xs_iconst (v := -1) d210_21 (by decide) ?_
        obtain ⟨eR, eH⟩ := K0 _ _ (Option.some.inj hf).symm
        subst eR; subst eH
        exact xs_iret d210_22 rt210
      · refine xs_icmp_ne (tgt := 23) d210_18 (by decide) (fun hp => absurd hp hc7) (fun _ => ?_)
        refine xs_aload_n d210_23 rfl ?_
        obtain ⟨h10, hc9, hf⟩ := lk_b hf
        refine xe_callv0 (as := []) (st := []) (h2 := h10) (d2 := d - 1) d210_24 ky210 ml226 st205 (by decide) cn205 rfl na205 (Nat.le_of_ble_eq_true rfl) (by omega) (f_M_keepsAct_ok (by omega) hc9) ?_
        refine xs_aload_n d210_27 rfl ?_
        refine xe_getc (j := 0) d210_28 ky210 fl181 fk12_20 rfl ?_
        refine xs_bipush (v := 36) d210_31 (by decide) ?_
        refine xs_iload_n d210_33 rfl ?_
        refine xs_iadd d210_34 ?_
        refine xs_dup2 d210_35 rfl rfl ?_
        obtain ⟨hin11, hf⟩ := lk_g hf
        refine xe_iald d210_36 (by decide) ak56 hin11 ?_
        refine xs_iconst (v := 1) d210_37 (by decide) ?_
        refine xs_iload_n d210_38 rfl ?_
        refine xs_ishl d210_39 ?_
        refine xs_ixor d210_40 ?_
        obtain ⟨hin12, hf⟩ := lk_g hf
        obtain ⟨h13, eh13, hf⟩ := lk_let hf
        refine xe_iast d210_41 (by decide) ak56 hin12  eh13 ?_
        refine xs_aload_n d210_42 rfl ?_
        refine xe_getc (j := 0) d210_43 ky210 fl181 fk12_20 rfl ?_
        refine xs_bipush (v := 36) d210_46 (by decide) ?_
        refine xs_iload_n d210_48 rfl ?_
        refine xs_iadd d210_49 ?_
        obtain ⟨hin14, hf⟩ := lk_g hf
        refine xe_iald d210_50 (by decide) ak56 hin14 ?_
        refine xs_iload_n d210_51 rfl ?_
        refine xs_ishr d210_52 ?_
        refine xs_iconst (v := 1) d210_53 (by decide) ?_
        refine xs_iand d210_54 ?_
        obtain ⟨eR, eH⟩ := K0 _ _ (Option.some.inj hf).symm
        subst eR; subst eH
        exact xs_iret d210_55 rt210
noncomputable def f_M_lay (v1 : Int32) (v2 : Int32) (h : xH) : Option (Int32 × xH) := f_M_lay_e v1 v2 h
theorem f_M_lay_ok {g : xG} {l : Launch} {d : Nat} {v1 : Int32} {v2 : Int32} {h : xH} {r : Int32} {h1 : xH} (hD : 2 ≤ d) (hf : f_M_lay v1 v2 h = some (r, h1)) : xC g l d 210 [xr 12 (some 0), xi v1, xi v2] h (some (xi r)) h1 :=
  xC_of2 (by decide) mx210 (Nat.le_of_ble_eq_true rfl) (f_M_lay_e_ok hD hf (fun _ _ e => by cases e; exact ⟨rfl, rfl⟩))
theorem d211_0 : decode (xcode 211) 0 = .ok (.aload_n 0, 1) := by decide +kernel
theorem d211_1 : decode (xcode 211) 1 = .ok (.iload_n 1, 1) := by decide +kernel
theorem d211_2 : decode (xcode 211) 2 = .ok (.invokevirtual 293, 3) := by decide +kernel
theorem d211_5 : decode (xcode 211) 5 = .ok (.ifCond .eq 28, 3) := by decide +kernel
theorem d211_8 : decode (xcode 211) 8 = .ok (.iload_n 2, 1) := by decide +kernel
theorem d211_9 : decode (xcode 211) 9 = .ok (.i2l, 1) := by decide +kernel
theorem d211_10 : decode (xcode 211) 10 = .ok (.lconst 1, 1) := by decide +kernel
theorem d211_11 : decode (xcode 211) 11 = .ok (.ldc2_w 357, 3) := by decide +kernel
theorem d211_14 : decode (xcode 211) 14 = .ok (.invokestatic 124, 3) := by decide +kernel
theorem d211_17 : decode (xcode 211) 17 = .ok (.ifCond .eq 16, 3) := by decide +kernel
theorem d211_20 : decode (xcode 211) 20 = .ok (.aload_n 0, 1) := by decide +kernel
theorem d211_21 : decode (xcode 211) 21 = .ok (.getfield 39, 3) := by decide +kernel
theorem d211_24 : decode (xcode 211) 24 = .ok (.bipush 28, 2) := by decide +kernel
theorem d211_26 : decode (xcode 211) 26 = .ok (.iload_n 1, 1) := by decide +kernel
theorem d211_27 : decode (xcode 211) 27 = .ok (.iadd, 1) := by decide +kernel
theorem d211_28 : decode (xcode 211) 28 = .ok (.iaload, 1) := by decide +kernel
theorem d211_29 : decode (xcode 211) 29 = .ok (.iload_n 2, 1) := by decide +kernel
theorem d211_30 : decode (xcode 211) 30 = .ok (.if_icmp .ne 5, 3) := by decide +kernel
theorem d211_33 : decode (xcode 211) 33 = .ok (.iconst (-1), 1) := by decide +kernel
theorem d211_34 : decode (xcode 211) 34 = .ok (.ireturn, 1) := by decide +kernel
theorem d211_35 : decode (xcode 211) 35 = .ok (.aload_n 0, 1) := by decide +kernel
theorem d211_36 : decode (xcode 211) 36 = .ok (.invokevirtual 352, 3) := by decide +kernel
theorem d211_39 : decode (xcode 211) 39 = .ok (.aload_n 0, 1) := by decide +kernel
theorem d211_40 : decode (xcode 211) 40 = .ok (.getfield 39, 3) := by decide +kernel
theorem d211_43 : decode (xcode 211) 43 = .ok (.bipush 28, 2) := by decide +kernel
theorem d211_45 : decode (xcode 211) 45 = .ok (.iload_n 1, 1) := by decide +kernel
theorem d211_46 : decode (xcode 211) 46 = .ok (.iadd, 1) := by decide +kernel
theorem d211_47 : decode (xcode 211) 47 = .ok (.iaload, 1) := by decide +kernel
theorem d211_48 : decode (xcode 211) 48 = .ok (.istore_n 3, 1) := by decide +kernel
theorem d211_49 : decode (xcode 211) 49 = .ok (.aload_n 0, 1) := by decide +kernel
theorem d211_50 : decode (xcode 211) 50 = .ok (.getfield 39, 3) := by decide +kernel
theorem d211_53 : decode (xcode 211) 53 = .ok (.bipush 28, 2) := by decide +kernel
theorem d211_55 : decode (xcode 211) 55 = .ok (.iload_n 1, 1) := by decide +kernel
theorem d211_56 : decode (xcode 211) 56 = .ok (.iadd, 1) := by decide +kernel
theorem d211_57 : decode (xcode 211) 57 = .ok (.iload_n 2, 1) := by decide +kernel
theorem d211_58 : decode (xcode 211) 58 = .ok (.iastore, 1) := by decide +kernel
theorem d211_59 : decode (xcode 211) 59 = .ok (.iload_n 3, 1) := by decide +kernel
theorem d211_60 : decode (xcode 211) 60 = .ok (.ireturn, 1) := by decide +kernel
noncomputable def f_M_lighten_e (v1 : Int32) (v2 : Int32) (h : xH) : Option (Int32 × xH) :=
  (f_M_isInside_i v1 h).bind fun r1 =>
  if r1 = (0 : Int32) then (
  some (((-1 : Int32), h))) else (
  (f_M_in ((v2).toInt64) (1 : Int64) (20 : Int64) h).bind fun r4 =>
  if r4 = (0 : Int32) then (
  some (((-1 : Int32), h))) else (
  if xib ((28 : Int32) + v1) 101 then (
  if (h.2.2.2.1 56 0 ((28 : Int32) + v1).toNatClampNeg) = v2 then (
  some (((-1 : Int32), h))) else (
  (f_M_keepsAct h).bind fun h11 =>
  if xib ((28 : Int32) + v1) 101 then (
  xlet (h11.2.2.2.1 56 0 ((28 : Int32) + v1).toNatClampNeg) fun v3_13 =>
  if xib ((28 : Int32) + v1) 101 then (
  xlet (xsA h11 56 0 (upd (h11.2.2.2.1 56 0) ((28 : Int32) + v1).toNatClampNeg v2)) fun h15 =>
  some ((v3_13, h15))) else none) else none)) else none))
set_option maxHeartbeats 4000000 in
set_option maxRecDepth 100000 in
theorem f_M_lighten_e_ok {g : xG} {l : Launch} {d : Nat} {v1 : Int32} {v2 : Int32} {h : xH} {o : (Int32 × xH)} {R : Option xV} {H' : xH} (hD : 2 ≤ d) (hf : f_M_lighten_e v1 v2 h = some o) (K0 : ∀ (a : Int32) (h1 : xH), o = (a, h1) → R = some (xi a) ∧ H' = h1) : xEv g l d 211 0 [(0, xr 12 (some 0)), (1, xi v1), (2, xi v2)] [] h R H' := by
  unfold f_M_lighten_e at hf
  refine xs_aload_n d211_0 rfl ?_
  refine xs_iload_n d211_1 rfl ?_
  obtain ⟨r1, hc2, hf⟩ := lk_b hf
  refine xe_callv1 (as := [xi v1]) (st := []) (h2 := h) (d2 := d - 1) d211_2 ky211 ml230 st186 (by decide) cn186 rfl na186 (Nat.le_of_ble_eq_true rfl) (by omega) (f_M_isInside_i_ok (by omega) hc2) ?_
  rcases lk_if hf with ⟨hc3, hf⟩ | ⟨hc3, hf⟩
  · refine xs_if_eq (tgt := 33) d211_5 (by decide) (fun _ => ?_) (fun hn => absurd hc3 hn)
    refine xs_iconst (v := -1) d211_33 (by decide) ?_
    obtain ⟨eR, eH⟩ := K0 _ _ (Option.some.inj hf).symm
    subst eR; subst eH
    exact xs_iret d211_34 rt211
  · refine xs_if_eq (tgt := 33) d211_5 (by decide) (fun hp => absurd hp hc3) (fun _ => ?_)
    refine xs_iload_n d211_8 rfl ?_
    refine xs_i2l d211_9 ?_
    refine xs_lconst (v := 1) d211_10 (by decide) ?_
    refine xs_ldc2 (v := 20) d211_11 cl12_357 ?_
    obtain ⟨r4, hc5, hf⟩ := lk_b hf
    refine xe_calls1 (as := [xl ((v2).toInt64), xl (1 : Int64), xl (20 : Int64)]) (st := []) (h2 := h) (d2 := d - 1) d211_14 ky211 ml196 st139 rfl na139 (Nat.le_of_ble_eq_true rfl) (by omega) (f_M_in_ok (by omega) hc5) ?_
    rcases lk_if hf with ⟨hc6, hf⟩ | ⟨hc6, hf⟩
    · refine xs_if_eq (tgt := 33) d211_17 (by decide) (fun _ => ?_) (fun hn => absurd hc6 hn)
      refine xs_iconst (v := -1) d211_33 (by decide) ?_
      obtain ⟨eR, eH⟩ := K0 _ _ (Option.some.inj hf).symm
      subst eR; subst eH
      exact xs_iret d211_34 rt211
    · refine xs_if_eq (tgt := 33) d211_17 (by decide) (fun hp => absurd hp hc6) (fun _ => ?_)
      refine xs_aload_n d211_20 rfl ?_
      refine xe_getc (j := 0) d211_21 ky211 fl181 fk12_20 rfl ?_
      refine xs_bipush (v := 28) d211_24 (by decide) ?_
      refine xs_iload_n d211_26 rfl ?_
      refine xs_iadd d211_27 ?_
      obtain ⟨hin7, hf⟩ := lk_g hf
      refine xe_iald d211_28 (by decide) ak56 hin7 ?_
      refine xs_iload_n d211_29 rfl ?_
      rcases lk_if hf with ⟨hc8, hf⟩ | ⟨hc8, hf⟩
      · refine xs_icmp_ne (tgt := 35) d211_30 (by decide) (fun _ => ?_) (fun hn => absurd hc8 hn)
        refine xs_iconst (v := -1) d211_33 (by decide) ?_
        obtain ⟨eR, eH⟩ := K0 _ _ (Option.some.inj hf).symm
        subst eR; subst eH
        exact xs_iret d211_34 rt211
      · refine xs_icmp_ne (tgt := 35) d211_30 (by decide) (fun hp => absurd hp hc8) (fun _ => ?_)
        refine xs_aload_n d211_35 rfl ?_
        obtain ⟨h11, hc10, hf⟩ := lk_b hf
        refine xe_callv0 (as := []) (st := []) (h2 := h11) (d2 := d - 1) d211_36 ky211 ml226 st205 (by decide) cn205 rfl na205 (Nat.le_of_ble_eq_true rfl) (by omega) (f_M_keepsAct_ok (by omega) hc10) ?_
        refine xs_aload_n d211_39 rfl ?_
        refine xe_getc (j := 0) d211_40 ky211 fl181 fk12_20 rfl ?_
        refine xs_bipush (v := 28) d211_43 (by decide) ?_
        refine xs_iload_n d211_45 rfl ?_
        refine xs_iadd d211_46 ?_
        obtain ⟨hin12, hf⟩ := lk_g hf
        refine xe_iald d211_47 (by decide) ak56 hin12 ?_
        obtain ⟨v3_13, ev3_13, hf⟩ := lk_let hf
        refine xe_istore_n (v := v3_13) (ls2 := [(0, xr 12 (some 0)), (1, xi v1), (2, xi v2), (3, xi v3_13)]) d211_48 mx211 (by decide) ev3_13 rfl ?_
        refine xs_aload_n d211_49 rfl ?_
        refine xe_getc (j := 0) d211_50 ky211 fl181 fk12_20 rfl ?_
        refine xs_bipush (v := 28) d211_53 (by decide) ?_
        refine xs_iload_n d211_55 rfl ?_
        refine xs_iadd d211_56 ?_
        refine xs_iload_n d211_57 rfl ?_
        obtain ⟨hin14, hf⟩ := lk_g hf
        obtain ⟨h15, eh15, hf⟩ := lk_let hf
        refine xe_iast d211_58 (by decide) ak56 hin14  eh15 ?_
        refine xs_iload_n d211_59 rfl ?_
        obtain ⟨eR, eH⟩ := K0 _ _ (Option.some.inj hf).symm
        subst eR; subst eH
        exact xs_iret d211_60 rt211
noncomputable def f_M_lighten (v1 : Int32) (v2 : Int32) (h : xH) : Option (Int32 × xH) := f_M_lighten_e v1 v2 h
theorem f_M_lighten_ok {g : xG} {l : Launch} {d : Nat} {v1 : Int32} {v2 : Int32} {h : xH} {r : Int32} {h1 : xH} (hD : 2 ≤ d) (hf : f_M_lighten v1 v2 h = some (r, h1)) : xC g l d 211 [xr 12 (some 0), xi v1, xi v2] h (some (xi r)) h1 :=
  xC_of2 (by decide) mx211 (Nat.le_of_ble_eq_true rfl) (f_M_lighten_e_ok hD hf (fun _ _ e => by cases e; exact ⟨rfl, rfl⟩))
theorem d212_0 : decode (xcode 212) 0 = .ok (.iconst 0, 1) := by decide +kernel
theorem d212_1 : decode (xcode 212) 1 = .ok (.istore_n 1, 1) := by decide +kernel
theorem d212_2 : decode (xcode 212) 2 = .ok (.iload_n 1, 1) := by decide +kernel
theorem d212_3 : decode (xcode 212) 3 = .ok (.bipush 34, 2) := by decide +kernel
theorem d212_5 : decode (xcode 212) 5 = .ok (.if_icmp .ge 24, 3) := by decide +kernel
theorem d212_8 : decode (xcode 212) 8 = .ok (.aload_n 0, 1) := by decide +kernel
theorem d212_9 : decode (xcode 212) 9 = .ok (.getfield 49, 3) := by decide +kernel
theorem d212_12 : decode (xcode 212) 12 = .ok (.iload_n 1, 1) := by decide +kernel
theorem d212_13 : decode (xcode 212) 13 = .ok (.aload_n 0, 1) := by decide +kernel
theorem d212_14 : decode (xcode 212) 14 = .ok (.getfield 39, 3) := by decide +kernel
theorem d212_17 : decode (xcode 212) 17 = .ok (.bipush 10, 2) := by decide +kernel
theorem d212_19 : decode (xcode 212) 19 = .ok (.iload_n 1, 1) := by decide +kernel
theorem d212_20 : decode (xcode 212) 20 = .ok (.iadd, 1) := by decide +kernel
theorem d212_21 : decode (xcode 212) 21 = .ok (.iaload, 1) := by decide +kernel
theorem d212_22 : decode (xcode 212) 22 = .ok (.iastore, 1) := by decide +kernel
theorem d212_23 : decode (xcode 212) 23 = .ok (.iinc 1 1, 3) := by decide +kernel
theorem d212_26 : decode (xcode 212) 26 = .ok (.goto (-24), 3) := by decide +kernel
theorem d212_29 : decode (xcode 212) 29 = .ok (.return_, 1) := by decide +kernel
noncomputable def f_M_keeps_s2 (v1 : Int32) (h : xH) : Option ((Int32 × xH) ⊕ xH) :=
  if (34 : Int32) ≤ v1 then (
  some (Sum.inr (h))) else (
  if xib ((10 : Int32) + v1) 101 then (
  if xib v1 34 then (
  xlet (xsA h 58 0 (upd (h.2.2.2.1 58 0) (v1).toNatClampNeg (h.2.2.2.1 56 0 ((10 : Int32) + v1).toNatClampNeg))) fun h4 =>
  xlet (v1 + (1 : Int32)) fun v1_5 =>
  some (Sum.inl (v1_5, h4))) else none) else none)
set_option maxHeartbeats 4000000 in
set_option maxRecDepth 100000 in
theorem f_M_keeps_s2_ok {g : xG} {l : Launch} {d : Nat} {v1 : Int32} {h : xH} {o : ((Int32 × xH) ⊕ xH)} {R : Option xV} {H' : xH} (hD : 0 ≤ d) (hf : f_M_keeps_s2 v1 h = some o) (K1 : ∀ (w1 : Int32) (h1 : xH), o = Sum.inl (w1, h1) → xEv g l d 212 2 [(0, xr 12 (some 0)), (1, xi w1)] [] h1 R H') (K0 : ∀ (h1 : xH), o = Sum.inr (h1) → R = none ∧ H' = h1) : xEv g l d 212 2 [(0, xr 12 (some 0)), (1, xi v1)] [] h R H' := by
  unfold f_M_keeps_s2 at hf
  refine xs_iload_n d212_2 rfl ?_
  refine xs_bipush (v := 34) d212_3 (by decide) ?_
  rcases lk_if hf with ⟨hc1, hf⟩ | ⟨hc1, hf⟩
  · refine xs_icmp_ge (tgt := 29) d212_5 (by decide) (fun _ => ?_) (fun hn => absurd hc1 hn)
    obtain ⟨eR, eH⟩ := K0 _ (Option.some.inj hf).symm
    subst eR; subst eH
    exact xs_vret d212_29 rt212
  · refine xs_icmp_ge (tgt := 29) d212_5 (by decide) (fun hp => absurd hp hc1) (fun _ => ?_)
    refine xs_aload_n d212_8 rfl ?_
    refine xe_getc (j := 0) d212_9 ky212 fl186 fk12_25 rfl ?_
    refine xs_iload_n d212_12 rfl ?_
    refine xs_aload_n d212_13 rfl ?_
    refine xe_getc (j := 0) d212_14 ky212 fl181 fk12_20 rfl ?_
    refine xs_bipush (v := 10) d212_17 (by decide) ?_
    refine xs_iload_n d212_19 rfl ?_
    refine xs_iadd d212_20 ?_
    obtain ⟨hin2, hf⟩ := lk_g hf
    refine xe_iald d212_21 (by decide) ak56 hin2 ?_
    obtain ⟨hin3, hf⟩ := lk_g hf
    obtain ⟨h4, eh4, hf⟩ := lk_let hf
    refine xe_iast d212_22 (by decide) ak58 hin3  eh4 ?_
    obtain ⟨v1_5, ev1_5, hf⟩ := lk_let hf
    refine xe_iinc (v := v1_5) (b := 1) (ls2 := [(0, xr 12 (some 0)), (1, xi v1_5)]) d212_23 mx212 (by decide) rfl (by decide) ev1_5 rfl ?_
    refine xs_goto (tgt := 2) d212_26 (by decide) ?_
    exact K1 _ _ (Option.some.inj hf).symm
noncomputable def f_M_keeps_l2 (v1 : Int32) (h : xH) : Option xH :=
  whl (fun s => f_M_keeps_s2 s.1 s.2) (v1, h)
theorem f_M_keeps_l2_ok {g : xG} {l : Launch} {d : Nat} {v1 : Int32} {h : xH} {o : xH} {R : Option xV} {H' : xH} (hD : 0 ≤ d) (hf : f_M_keeps_l2 v1 h = some o) (K0 : ∀ (h1 : xH), o = h1 → R = none ∧ H' = h1) : xEv g l d 212 2 [(0, xr 12 (some 0)), (1, xi v1)] [] h R H' := by
  obtain ⟨n, hn⟩ := whl_iff.mp hf
  clear hf
  induction n generalizing v1 h with
  | zero => cases hn
  | succ n ih =>
    obtain ⟨o2, hs, hn⟩ := lk_b (show (f_M_keeps_s2 v1 h).bind (fun o => Sum.elim (itn _ n) some o) = some o from hn)
    exact f_M_keeps_s2_ok hD hs (fun u0 u1 e => ih (by rw [e] at hn; exact hn)) (fun u0 e => K0 u0 (by rw [e] at hn; exact (Option.some.inj hn).symm))
noncomputable def f_M_keeps_e (h : xH) : Option xH :=
  f_M_keeps_l2 (0 : Int32) h
set_option maxHeartbeats 4000000 in
set_option maxRecDepth 100000 in
theorem f_M_keeps_e_ok {g : xG} {l : Launch} {d : Nat} {h : xH} {o : xH} {R : Option xV} {H' : xH} (hD : 0 ≤ d) (hf : f_M_keeps_e h = some o) (K0 : ∀ (h1 : xH), o = h1 → R = none ∧ H' = h1) : xEv g l d 212 0 [(0, xr 12 (some 0))] [] h R H' := by
  unfold f_M_keeps_e at hf
  refine xs_iconst (v := 0) d212_0 (by decide) ?_
  refine xe_istore_n (v := (0 : Int32)) (ls2 := [(0, xr 12 (some 0)), (1, xi (0 : Int32))]) d212_1 mx212 (by decide) rfl rfl ?_
  exact f_M_keeps_l2_ok hD hf K0
noncomputable def f_M_keeps (h : xH) : Option xH := f_M_keeps_e h
theorem f_M_keeps_ok {g : xG} {l : Launch} {d : Nat} {h : xH} {h1 : xH} (hD : 0 ≤ d) (hf : f_M_keeps h = some h1) : xC g l d 212 [xr 12 (some 0)] h none h1 :=
  xC_of2 (by decide) mx212 (Nat.le_of_ble_eq_true rfl) (f_M_keeps_e_ok hD hf (fun _ e => ⟨rfl, e⟩))
theorem d213_0 : decode (xcode 213) 0 = .ok (.iconst 0, 1) := by decide +kernel
theorem d213_1 : decode (xcode 213) 1 = .ok (.istore_n 1, 1) := by decide +kernel
theorem d213_2 : decode (xcode 213) 2 = .ok (.iload_n 1, 1) := by decide +kernel
theorem d213_3 : decode (xcode 213) 3 = .ok (.bipush 34, 2) := by decide +kernel
theorem d213_5 : decode (xcode 213) 5 = .ok (.if_icmp .ge 24, 3) := by decide +kernel
theorem d213_8 : decode (xcode 213) 8 = .ok (.aload_n 0, 1) := by decide +kernel
theorem d213_9 : decode (xcode 213) 9 = .ok (.getfield 39, 3) := by decide +kernel
theorem d213_12 : decode (xcode 213) 12 = .ok (.bipush 10, 2) := by decide +kernel
theorem d213_14 : decode (xcode 213) 14 = .ok (.iload_n 1, 1) := by decide +kernel
theorem d213_15 : decode (xcode 213) 15 = .ok (.iadd, 1) := by decide +kernel
theorem d213_16 : decode (xcode 213) 16 = .ok (.aload_n 0, 1) := by decide +kernel
theorem d213_17 : decode (xcode 213) 17 = .ok (.getfield 49, 3) := by decide +kernel
theorem d213_20 : decode (xcode 213) 20 = .ok (.iload_n 1, 1) := by decide +kernel
theorem d213_21 : decode (xcode 213) 21 = .ok (.iaload, 1) := by decide +kernel
theorem d213_22 : decode (xcode 213) 22 = .ok (.iastore, 1) := by decide +kernel
theorem d213_23 : decode (xcode 213) 23 = .ok (.iinc 1 1, 3) := by decide +kernel
theorem d213_26 : decode (xcode 213) 26 = .ok (.goto (-24), 3) := by decide +kernel
theorem d213_29 : decode (xcode 213) 29 = .ok (.return_, 1) := by decide +kernel
noncomputable def f_M_laysBack_s2 (v1 : Int32) (h : xH) : Option ((Int32 × xH) ⊕ xH) :=
  if (34 : Int32) ≤ v1 then (
  some (Sum.inr (h))) else (
  if xib v1 34 then (
  if xib ((10 : Int32) + v1) 101 then (
  xlet (xsA h 56 0 (upd (h.2.2.2.1 56 0) ((10 : Int32) + v1).toNatClampNeg (h.2.2.2.1 58 0 (v1).toNatClampNeg))) fun h4 =>
  xlet (v1 + (1 : Int32)) fun v1_5 =>
  some (Sum.inl (v1_5, h4))) else none) else none)
set_option maxHeartbeats 4000000 in
set_option maxRecDepth 100000 in
theorem f_M_laysBack_s2_ok {g : xG} {l : Launch} {d : Nat} {v1 : Int32} {h : xH} {o : ((Int32 × xH) ⊕ xH)} {R : Option xV} {H' : xH} (hD : 0 ≤ d) (hf : f_M_laysBack_s2 v1 h = some o) (K1 : ∀ (w1 : Int32) (h1 : xH), o = Sum.inl (w1, h1) → xEv g l d 213 2 [(0, xr 12 (some 0)), (1, xi w1)] [] h1 R H') (K0 : ∀ (h1 : xH), o = Sum.inr (h1) → R = none ∧ H' = h1) : xEv g l d 213 2 [(0, xr 12 (some 0)), (1, xi v1)] [] h R H' := by
  unfold f_M_laysBack_s2 at hf
  refine xs_iload_n d213_2 rfl ?_
  refine xs_bipush (v := 34) d213_3 (by decide) ?_
  rcases lk_if hf with ⟨hc1, hf⟩ | ⟨hc1, hf⟩
  · refine xs_icmp_ge (tgt := 29) d213_5 (by decide) (fun _ => ?_) (fun hn => absurd hc1 hn)
    obtain ⟨eR, eH⟩ := K0 _ (Option.some.inj hf).symm
    subst eR; subst eH
    exact xs_vret d213_29 rt213
  · refine xs_icmp_ge (tgt := 29) d213_5 (by decide) (fun hp => absurd hp hc1) (fun _ => ?_)
    refine xs_aload_n d213_8 rfl ?_
    refine xe_getc (j := 0) d213_9 ky213 fl181 fk12_20 rfl ?_
    refine xs_bipush (v := 10) d213_12 (by decide) ?_
    refine xs_iload_n d213_14 rfl ?_
    refine xs_iadd d213_15 ?_
    refine xs_aload_n d213_16 rfl ?_
    refine xe_getc (j := 0) d213_17 ky213 fl186 fk12_25 rfl ?_
    refine xs_iload_n d213_20 rfl ?_
    obtain ⟨hin2, hf⟩ := lk_g hf
    refine xe_iald d213_21 (by decide) ak58 hin2 ?_
    obtain ⟨hin3, hf⟩ := lk_g hf
    obtain ⟨h4, eh4, hf⟩ := lk_let hf
    refine xe_iast d213_22 (by decide) ak56 hin3  eh4 ?_
    obtain ⟨v1_5, ev1_5, hf⟩ := lk_let hf
    refine xe_iinc (v := v1_5) (b := 1) (ls2 := [(0, xr 12 (some 0)), (1, xi v1_5)]) d213_23 mx213 (by decide) rfl (by decide) ev1_5 rfl ?_
    refine xs_goto (tgt := 2) d213_26 (by decide) ?_
    exact K1 _ _ (Option.some.inj hf).symm
noncomputable def f_M_laysBack_l2 (v1 : Int32) (h : xH) : Option xH :=
  whl (fun s => f_M_laysBack_s2 s.1 s.2) (v1, h)
theorem f_M_laysBack_l2_ok {g : xG} {l : Launch} {d : Nat} {v1 : Int32} {h : xH} {o : xH} {R : Option xV} {H' : xH} (hD : 0 ≤ d) (hf : f_M_laysBack_l2 v1 h = some o) (K0 : ∀ (h1 : xH), o = h1 → R = none ∧ H' = h1) : xEv g l d 213 2 [(0, xr 12 (some 0)), (1, xi v1)] [] h R H' := by
  obtain ⟨n, hn⟩ := whl_iff.mp hf
  clear hf
  induction n generalizing v1 h with
  | zero => cases hn
  | succ n ih =>
    obtain ⟨o2, hs, hn⟩ := lk_b (show (f_M_laysBack_s2 v1 h).bind (fun o => Sum.elim (itn _ n) some o) = some o from hn)
    exact f_M_laysBack_s2_ok hD hs (fun u0 u1 e => ih (by rw [e] at hn; exact hn)) (fun u0 e => K0 u0 (by rw [e] at hn; exact (Option.some.inj hn).symm))
noncomputable def f_M_laysBack_e (h : xH) : Option xH :=
  f_M_laysBack_l2 (0 : Int32) h
set_option maxHeartbeats 4000000 in
set_option maxRecDepth 100000 in
theorem f_M_laysBack_e_ok {g : xG} {l : Launch} {d : Nat} {h : xH} {o : xH} {R : Option xV} {H' : xH} (hD : 0 ≤ d) (hf : f_M_laysBack_e h = some o) (K0 : ∀ (h1 : xH), o = h1 → R = none ∧ H' = h1) : xEv g l d 213 0 [(0, xr 12 (some 0))] [] h R H' := by
  unfold f_M_laysBack_e at hf
  refine xs_iconst (v := 0) d213_0 (by decide) ?_
  refine xe_istore_n (v := (0 : Int32)) (ls2 := [(0, xr 12 (some 0)), (1, xi (0 : Int32))]) d213_1 mx213 (by decide) rfl rfl ?_
  exact f_M_laysBack_l2_ok hD hf K0
noncomputable def f_M_laysBack (h : xH) : Option xH := f_M_laysBack_e h
theorem f_M_laysBack_ok {g : xG} {l : Launch} {d : Nat} {h : xH} {h1 : xH} (hD : 0 ≤ d) (hf : f_M_laysBack h = some h1) : xC g l d 213 [xr 12 (some 0)] h none h1 :=
  xC_of2 (by decide) mx213 (Nat.le_of_ble_eq_true rfl) (f_M_laysBack_e_ok hD hf (fun _ e => ⟨rfl, e⟩))
theorem d214_0 : decode (xcode 214) 0 = .ok (.aload_n 0, 1) := by decide +kernel
theorem d214_1 : decode (xcode 214) 1 = .ok (.invokevirtual 349, 3) := by decide +kernel
theorem d214_4 : decode (xcode 214) 4 = .ok (.ifCond .eq 27, 3) := by decide +kernel
theorem d214_7 : decode (xcode 214) 7 = .ok (.iload_n 1, 1) := by decide +kernel
theorem d214_8 : decode (xcode 214) 8 = .ok (.i2l, 1) := by decide +kernel
theorem d214_9 : decode (xcode 214) 9 = .ok (.lconst 0, 1) := by decide +kernel
theorem d214_10 : decode (xcode 214) 10 = .ok (.ldc2_w 359, 3) := by decide +kernel
theorem d214_13 : decode (xcode 214) 13 = .ok (.invokestatic 124, 3) := by decide +kernel
theorem d214_16 : decode (xcode 214) 16 = .ok (.ifCond .eq 15, 3) := by decide +kernel
theorem d214_19 : decode (xcode 214) 19 = .ok (.iload_n 2, 1) := by decide +kernel
theorem d214_20 : decode (xcode 214) 20 = .ok (.i2l, 1) := by decide +kernel
theorem d214_21 : decode (xcode 214) 21 = .ok (.lconst 0, 1) := by decide +kernel
theorem d214_22 : decode (xcode 214) 22 = .ok (.ldc2_w 361, 3) := by decide +kernel
theorem d214_25 : decode (xcode 214) 25 = .ok (.invokestatic 124, 3) := by decide +kernel
theorem d214_28 : decode (xcode 214) 28 = .ok (.ifCond .ne 5, 3) := by decide +kernel
theorem d214_31 : decode (xcode 214) 31 = .ok (.iconst (-1), 1) := by decide +kernel
theorem d214_32 : decode (xcode 214) 32 = .ok (.ireturn, 1) := by decide +kernel
theorem d214_33 : decode (xcode 214) 33 = .ok (.aload_n 0, 1) := by decide +kernel
theorem d214_34 : decode (xcode 214) 34 = .ok (.invokevirtual 363, 3) := by decide +kernel
theorem d214_37 : decode (xcode 214) 37 = .ok (.aload_n 0, 1) := by decide +kernel
theorem d214_38 : decode (xcode 214) 38 = .ok (.iload_n 1, 1) := by decide +kernel
theorem d214_39 : decode (xcode 214) 39 = .ok (.invokevirtual 366, 3) := by decide +kernel
theorem d214_42 : decode (xcode 214) 42 = .ok (.iload_n 2, 1) := by decide +kernel
theorem d214_43 : decode (xcode 214) 43 = .ok (.ifCond .ne 13, 3) := by decide +kernel
theorem d214_46 : decode (xcode 214) 46 = .ok (.aload_n 0, 1) := by decide +kernel
theorem d214_47 : decode (xcode 214) 47 = .ok (.getfield 39, 3) := by decide +kernel
theorem d214_50 : decode (xcode 214) 50 = .ok (.bipush 10, 2) := by decide +kernel
theorem d214_52 : decode (xcode 214) 52 = .ok (.iaload, 1) := by decide +kernel
theorem d214_53 : decode (xcode 214) 53 = .ok (.goto 34, 3) := by decide +kernel
theorem d214_56 : decode (xcode 214) 56 = .ok (.iload_n 2, 1) := by decide +kernel
theorem d214_57 : decode (xcode 214) 57 = .ok (.iconst 1, 1) := by decide +kernel
theorem d214_58 : decode (xcode 214) 58 = .ok (.if_icmp .ne 10, 3) := by decide +kernel
theorem d214_61 : decode (xcode 214) 61 = .ok (.aload_n 0, 1) := by decide +kernel
theorem d214_62 : decode (xcode 214) 62 = .ok (.invokevirtual 327, 3) := by decide +kernel
theorem d214_65 : decode (xcode 214) 65 = .ok (.goto 22, 3) := by decide +kernel
theorem d214_68 : decode (xcode 214) 68 = .ok (.iload_n 2, 1) := by decide +kernel
theorem d214_69 : decode (xcode 214) 69 = .ok (.iconst 2, 1) := by decide +kernel
theorem d214_70 : decode (xcode 214) 70 = .ok (.if_icmp .ne 10, 3) := by decide +kernel
theorem d214_73 : decode (xcode 214) 73 = .ok (.aload_n 0, 1) := by decide +kernel
theorem d214_74 : decode (xcode 214) 74 = .ok (.invokevirtual 324, 3) := by decide +kernel
theorem d214_77 : decode (xcode 214) 77 = .ok (.goto 10, 3) := by decide +kernel
theorem d214_80 : decode (xcode 214) 80 = .ok (.aload_n 0, 1) := by decide +kernel
theorem d214_81 : decode (xcode 214) 81 = .ok (.invokevirtual 295, 3) := by decide +kernel
theorem d214_84 : decode (xcode 214) 84 = .ok (.invokestatic 318, 3) := by decide +kernel
theorem d214_87 : decode (xcode 214) 87 = .ok (.istore_n 3, 1) := by decide +kernel
theorem d214_88 : decode (xcode 214) 88 = .ok (.aload_n 0, 1) := by decide +kernel
theorem d214_89 : decode (xcode 214) 89 = .ok (.invokevirtual 369, 3) := by decide +kernel
theorem d214_92 : decode (xcode 214) 92 = .ok (.iload_n 3, 1) := by decide +kernel
theorem d214_93 : decode (xcode 214) 93 = .ok (.ireturn, 1) := by decide +kernel
noncomputable def f_M_ahead_b87 (t0 : Int32) (h : xH) : Option (Int32 × xH) :=
  (f_M_laysBack h).bind fun h19 =>
  some ((t0, h19))
set_option maxHeartbeats 4000000 in
set_option maxRecDepth 100000 in
theorem f_M_ahead_b87_ok {g : xG} {l : Launch} {d : Nat} {t0 : Int32} {h : xH} {o : (Int32 × xH)} {R : Option xV} {H' : xH} (hD : 9 ≤ d) (hf : f_M_ahead_b87 t0 h = some o) (K0 : ∀ (a : Int32) (h1 : xH), o = (a, h1) → R = some (xi a) ∧ H' = h1) : xEv g l d 214 87 [(0, xr 12 (some 0))] [xi t0] h R H' := by
  unfold f_M_ahead_b87 at hf
  refine xe_istore_n (v := t0) (ls2 := [(0, xr 12 (some 0)), (3, xi t0)]) d214_87 mx214 (by decide) rfl rfl ?_
  refine xs_aload_n d214_88 rfl ?_
  obtain ⟨h19, hc18, hf⟩ := lk_b hf
  refine xe_callv0 (as := []) (st := []) (h2 := h19) (d2 := d - 1) d214_89 ky214 ml254 st213 (by decide) cn213 rfl na213 (Nat.le_of_ble_eq_true rfl) (by omega) (f_M_laysBack_ok (by omega) hc18) ?_
  refine xs_iload_n d214_92 rfl ?_
  obtain ⟨eR, eH⟩ := K0 _ _ (Option.some.inj hf).symm
  subst eR; subst eH
  exact xs_iret d214_93 rt214
noncomputable def f_M_ahead_e (v1 : Int32) (v2 : Int32) (h : xH) : Option (Int32 × xH) :=
  (f_M_isTrug h).bind fun r1 =>
  if r1 = (0 : Int32) then (
  some (((-1 : Int32), h))) else (
  (f_M_in ((v1).toInt64) (0 : Int64) (100 : Int64) h).bind fun r4 =>
  if r4 = (0 : Int32) then (
  some (((-1 : Int32), h))) else (
  (f_M_in ((v2).toInt64) (0 : Int64) (3 : Int64) h).bind fun r7 =>
  if r7 = (0 : Int32) then (
  some (((-1 : Int32), h))) else (
  (f_M_keeps h).bind fun h12 =>
  (f_M_passesAll v1 h12).bind fun h15 =>
  if v2 = (0 : Int32) then (
  f_M_ahead_b87 (h15.2.2.2.1 56 0 ((10 : Int32)).toNatClampNeg) h15) else (
  if v2 = (1 : Int32) then (
  (f_M_letBe h15).bind fun r21 =>
  f_M_ahead_b87 r21 h15) else (
  if v2 = (2 : Int32) then (
  (f_M_loadNow h15).bind fun r24 =>
  f_M_ahead_b87 r24 h15) else (
  (f_M_inside h15).bind fun r26 =>
  (f_M_bits r26 h15).bind fun r28 =>
  f_M_ahead_b87 r28 h15))))))
set_option maxHeartbeats 4000000 in
set_option maxRecDepth 100000 in
theorem f_M_ahead_e_ok {g : xG} {l : Launch} {d : Nat} {v1 : Int32} {v2 : Int32} {h : xH} {o : (Int32 × xH)} {R : Option xV} {H' : xH} (hD : 9 ≤ d) (hf : f_M_ahead_e v1 v2 h = some o) (K0 : ∀ (a : Int32) (h1 : xH), o = (a, h1) → R = some (xi a) ∧ H' = h1) : xEv g l d 214 0 [(0, xr 12 (some 0)), (1, xi v1), (2, xi v2)] [] h R H' := by
  unfold f_M_ahead_e at hf
  refine xs_aload_n d214_0 rfl ?_
  obtain ⟨r1, hc2, hf⟩ := lk_b hf
  refine xe_callv1 (as := []) (st := []) (h2 := h) (d2 := d - 1) d214_1 ky214 ml225 st184 (by decide) cn184 rfl na184 (Nat.le_of_ble_eq_true rfl) (by omega) (f_M_isTrug_ok (by omega) hc2) ?_
  rcases lk_if hf with ⟨hc3, hf⟩ | ⟨hc3, hf⟩
  · refine xs_if_eq (tgt := 31) d214_4 (by decide) (fun _ => ?_) (fun hn => absurd hc3 hn)
    refine xs_iconst (v := -1) d214_31 (by decide) ?_
    obtain ⟨eR, eH⟩ := K0 _ _ (Option.some.inj hf).symm
    subst eR; subst eH
    exact xs_iret d214_32 rt214
  · refine xs_if_eq (tgt := 31) d214_4 (by decide) (fun hp => absurd hp hc3) (fun _ => ?_)
    refine xs_iload_n d214_7 rfl ?_
    refine xs_i2l d214_8 ?_
    refine xs_lconst (v := 0) d214_9 (by decide) ?_
    refine xs_ldc2 (v := 100) d214_10 cl12_359 ?_
    obtain ⟨r4, hc5, hf⟩ := lk_b hf
    refine xe_calls1 (as := [xl ((v1).toInt64), xl (0 : Int64), xl (100 : Int64)]) (st := []) (h2 := h) (d2 := d - 1) d214_13 ky214 ml196 st139 rfl na139 (Nat.le_of_ble_eq_true rfl) (by omega) (f_M_in_ok (by omega) hc5) ?_
    rcases lk_if hf with ⟨hc6, hf⟩ | ⟨hc6, hf⟩
    · refine xs_if_eq (tgt := 31) d214_16 (by decide) (fun _ => ?_) (fun hn => absurd hc6 hn)
      refine xs_iconst (v := -1) d214_31 (by decide) ?_
      obtain ⟨eR, eH⟩ := K0 _ _ (Option.some.inj hf).symm
      subst eR; subst eH
      exact xs_iret d214_32 rt214
    · refine xs_if_eq (tgt := 31) d214_16 (by decide) (fun hp => absurd hp hc6) (fun _ => ?_)
      refine xs_iload_n d214_19 rfl ?_
      refine xs_i2l d214_20 ?_
      refine xs_lconst (v := 0) d214_21 (by decide) ?_
      refine xs_ldc2 (v := 3) d214_22 cl12_361 ?_
      obtain ⟨r7, hc8, hf⟩ := lk_b hf
      refine xe_calls1 (as := [xl ((v2).toInt64), xl (0 : Int64), xl (3 : Int64)]) (st := []) (h2 := h) (d2 := d - 1) d214_25 ky214 ml196 st139 rfl na139 (Nat.le_of_ble_eq_true rfl) (by omega) (f_M_in_ok (by omega) hc8) ?_
      rcases lk_if hf with ⟨hc9, hf⟩ | ⟨hc9, hf⟩
      · refine xs_if_ne (tgt := 33) d214_28 (by decide) (fun _ => ?_) (fun hn => absurd hc9 hn)
        refine xs_iconst (v := -1) d214_31 (by decide) ?_
        obtain ⟨eR, eH⟩ := K0 _ _ (Option.some.inj hf).symm
        subst eR; subst eH
        exact xs_iret d214_32 rt214
      · refine xs_if_ne (tgt := 33) d214_28 (by decide) (fun hp => absurd hp hc9) (fun _ => ?_)
        refine xs_aload_n d214_33 rfl ?_
        obtain ⟨h12, hc11, hf⟩ := lk_b hf
        refine xe_callv0 (as := []) (st := []) (h2 := h12) (d2 := d - 1) d214_34 ky214 ml252 st212 (by decide) cn212 rfl na212 (Nat.le_of_ble_eq_true rfl) (by omega) (f_M_keeps_ok (by omega) hc11) ?_
        refine xs_aload_n d214_37 rfl ?_
        refine xs_iload_n d214_38 rfl ?_
        obtain ⟨h15, hc14, hf⟩ := lk_b hf
        refine xe_callv0 (as := [xi v1]) (st := []) (h2 := h15) (d2 := d - 1) d214_39 ky214 ml253 st204 (by decide) cn204 rfl na204 (Nat.le_of_ble_eq_true rfl) (by omega) (f_M_passesAll_ok (by omega) hc14) ?_
        refine xs_iload_n d214_42 rfl ?_
        rcases lk_if hf with ⟨hc16, hf⟩ | ⟨hc16, hf⟩
        · refine xs_if_ne (tgt := 56) d214_43 (by decide) (fun _ => ?_) (fun hn => absurd hc16 hn)
          refine xs_aload_n d214_46 rfl ?_
          refine xe_getc (j := 0) d214_47 ky214 fl181 fk12_20 rfl ?_
          refine xs_bipush (v := 10) d214_50 (by decide) ?_
          refine xe_iald d214_52 (by decide) ak56 (show xib (10 : Int32) 101 by decide) ?_
          refine xs_goto (tgt := 87) d214_53 (by decide) ?_
          refine xs_pick [0] rfl ?_
          exact f_M_ahead_b87_ok hD hf K0
        · refine xs_if_ne (tgt := 56) d214_43 (by decide) (fun hp => absurd hp hc16) (fun _ => ?_)
          refine xs_iload_n d214_56 rfl ?_
          refine xs_iconst (v := 1) d214_57 (by decide) ?_
          rcases lk_if hf with ⟨hc20, hf⟩ | ⟨hc20, hf⟩
          · refine xs_icmp_ne (tgt := 68) d214_58 (by decide) (fun _ => ?_) (fun hn => absurd hc20 hn)
            refine xs_aload_n d214_61 rfl ?_
            obtain ⟨r21, hc22, hf⟩ := lk_b hf
            refine xe_callv1 (as := []) (st := []) (h2 := h15) (d2 := d - 1) d214_62 ky214 ml238 st192 (by decide) cn192 rfl na192 (Nat.le_of_ble_eq_true rfl) (by omega) (f_M_letBe_ok (by omega) hc22) ?_
            refine xs_goto (tgt := 87) d214_65 (by decide) ?_
            refine xs_pick [0] rfl ?_
            exact f_M_ahead_b87_ok hD hf K0
          · refine xs_icmp_ne (tgt := 68) d214_58 (by decide) (fun hp => absurd hp hc20) (fun _ => ?_)
            refine xs_iload_n d214_68 rfl ?_
            refine xs_iconst (v := 2) d214_69 (by decide) ?_
            rcases lk_if hf with ⟨hc23, hf⟩ | ⟨hc23, hf⟩
            · refine xs_icmp_ne (tgt := 80) d214_70 (by decide) (fun _ => ?_) (fun hn => absurd hc23 hn)
              refine xs_aload_n d214_73 rfl ?_
              obtain ⟨r24, hc25, hf⟩ := lk_b hf
              refine xe_callv1 (as := []) (st := []) (h2 := h15) (d2 := d - 1) d214_74 ky214 ml236 st193 (by decide) cn193 rfl na193 (Nat.le_of_ble_eq_true rfl) (by omega) (f_M_loadNow_ok (by omega) hc25) ?_
              refine xs_goto (tgt := 87) d214_77 (by decide) ?_
              refine xs_pick [0] rfl ?_
              exact f_M_ahead_b87_ok hD hf K0
            · refine xs_icmp_ne (tgt := 80) d214_70 (by decide) (fun hp => absurd hp hc23) (fun _ => ?_)
              refine xs_aload_n d214_80 rfl ?_
              obtain ⟨r26, hc27, hf⟩ := lk_b hf
              refine xe_callv1 (as := []) (st := []) (h2 := h15) (d2 := d - 1) d214_81 ky214 ml231 st187 (by decide) cn187 rfl na187 (Nat.le_of_ble_eq_true rfl) (by omega) (f_M_inside_ok (by omega) hc27) ?_
              obtain ⟨r28, hc29, hf⟩ := lk_b hf
              refine xe_calls1 (as := [xi r26]) (st := []) (h2 := h15) (d2 := d - 1) d214_84 ky214 ml234 st141 rfl na141 (Nat.le_of_ble_eq_true rfl) (by omega) (f_M_bits_ok (by omega) hc29) ?_
              refine xs_pick [0] rfl ?_
              exact f_M_ahead_b87_ok hD hf K0
noncomputable def f_M_ahead (v1 : Int32) (v2 : Int32) (h : xH) : Option (Int32 × xH) := f_M_ahead_e v1 v2 h
theorem f_M_ahead_ok {g : xG} {l : Launch} {d : Nat} {v1 : Int32} {v2 : Int32} {h : xH} {r : Int32} {h1 : xH} (hD : 9 ≤ d) (hf : f_M_ahead v1 v2 h = some (r, h1)) : xC g l d 214 [xr 12 (some 0), xi v1, xi v2] h (some (xi r)) h1 :=
  xC_of2 (by decide) mx214 (Nat.le_of_ble_eq_true rfl) (f_M_ahead_e_ok hD hf (fun _ _ e => by cases e; exact ⟨rfl, rfl⟩))
theorem d215_0 : decode (xcode 215) 0 = .ok (.aload_n 0, 1) := by decide +kernel
theorem d215_1 : decode (xcode 215) 1 = .ok (.iload_n 1, 1) := by decide +kernel
theorem d215_2 : decode (xcode 215) 2 = .ok (.invokevirtual 293, 3) := by decide +kernel
theorem d215_5 : decode (xcode 215) 5 = .ok (.ifCond .eq 13, 3) := by decide +kernel
theorem d215_8 : decode (xcode 215) 8 = .ok (.iload_n 2, 1) := by decide +kernel
theorem d215_9 : decode (xcode 215) 9 = .ok (.i2l, 1) := by decide +kernel
theorem d215_10 : decode (xcode 215) 10 = .ok (.lconst 0, 1) := by decide +kernel
theorem d215_11 : decode (xcode 215) 11 = .ok (.lconst 1, 1) := by decide +kernel
theorem d215_12 : decode (xcode 215) 12 = .ok (.invokestatic 124, 3) := by decide +kernel
theorem d215_15 : decode (xcode 215) 15 = .ok (.ifCond .ne 5, 3) := by decide +kernel
theorem d215_18 : decode (xcode 215) 18 = .ok (.iconst (-1), 1) := by decide +kernel
theorem d215_19 : decode (xcode 215) 19 = .ok (.ireturn, 1) := by decide +kernel
theorem d215_20 : decode (xcode 215) 20 = .ok (.bipush (-2), 2) := by decide +kernel
theorem d215_22 : decode (xcode 215) 22 = .ok (.istore_n 3, 1) := by decide +kernel
theorem d215_23 : decode (xcode 215) 23 = .ok (.aload_n 0, 1) := by decide +kernel
theorem d215_24 : decode (xcode 215) 24 = .ok (.invokevirtual 363, 3) := by decide +kernel
theorem d215_27 : decode (xcode 215) 27 = .ok (.iconst 0, 1) := by decide +kernel
theorem d215_28 : decode (xcode 215) 28 = .ok (.istore 4, 2) := by decide +kernel
theorem d215_30 : decode (xcode 215) 30 = .ok (.iload 4, 2) := by decide +kernel
theorem d215_32 : decode (xcode 215) 32 = .ok (.bipush 100, 2) := by decide +kernel
theorem d215_34 : decode (xcode 215) 34 = .ok (.if_icmp .ge 45, 3) := by decide +kernel
theorem d215_37 : decode (xcode 215) 37 = .ok (.iload_n 3, 1) := by decide +kernel
theorem d215_38 : decode (xcode 215) 38 = .ok (.ifCond .ge 41, 3) := by decide +kernel
theorem d215_41 : decode (xcode 215) 41 = .ok (.aload_n 0, 1) := by decide +kernel
theorem d215_42 : decode (xcode 215) 42 = .ok (.invokevirtual 346, 3) := by decide +kernel
theorem d215_45 : decode (xcode 215) 45 = .ok (.iload_n 1, 1) := by decide +kernel
theorem d215_46 : decode (xcode 215) 46 = .ok (.if_icmp .ne 27, 3) := by decide +kernel
theorem d215_49 : decode (xcode 215) 49 = .ok (.iload_n 2, 1) := by decide +kernel
theorem d215_50 : decode (xcode 215) 50 = .ok (.ifCond .ne 15, 3) := by decide +kernel
theorem d215_53 : decode (xcode 215) 53 = .ok (.aload_n 0, 1) := by decide +kernel
theorem d215_54 : decode (xcode 215) 54 = .ok (.getfield 39, 3) := by decide +kernel
theorem d215_57 : decode (xcode 215) 57 = .ok (.bipush 11, 2) := by decide +kernel
theorem d215_59 : decode (xcode 215) 59 = .ok (.iaload, 1) := by decide +kernel
theorem d215_60 : decode (xcode 215) 60 = .ok (.iconst 1, 1) := by decide +kernel
theorem d215_61 : decode (xcode 215) 61 = .ok (.isub, 1) := by decide +kernel
theorem d215_62 : decode (xcode 215) 62 = .ok (.goto 10, 3) := by decide +kernel
theorem d215_65 : decode (xcode 215) 65 = .ok (.aload_n 0, 1) := by decide +kernel
theorem d215_66 : decode (xcode 215) 66 = .ok (.getfield 39, 3) := by decide +kernel
theorem d215_69 : decode (xcode 215) 69 = .ok (.bipush 10, 2) := by decide +kernel
theorem d215_71 : decode (xcode 215) 71 = .ok (.iaload, 1) := by decide +kernel
theorem d215_72 : decode (xcode 215) 72 = .ok (.istore_n 3, 1) := by decide +kernel
theorem d215_73 : decode (xcode 215) 73 = .ok (.iinc 4 1, 3) := by decide +kernel
theorem d215_76 : decode (xcode 215) 76 = .ok (.goto (-46), 3) := by decide +kernel
theorem d215_79 : decode (xcode 215) 79 = .ok (.aload_n 0, 1) := by decide +kernel
theorem d215_80 : decode (xcode 215) 80 = .ok (.invokevirtual 369, 3) := by decide +kernel
theorem d215_83 : decode (xcode 215) 83 = .ok (.iload_n 3, 1) := by decide +kernel
theorem d215_84 : decode (xcode 215) 84 = .ok (.ireturn, 1) := by decide +kernel
noncomputable def f_M_when_b79 (v3 : Int32) (h : xH) : Option (Int32 × xH) :=
  (f_M_laysBack h).bind fun h13 =>
  some ((v3, h13))
set_option maxHeartbeats 4000000 in
set_option maxRecDepth 100000 in
theorem f_M_when_b79_ok {g : xG} {l : Launch} {d : Nat} {v3 : Int32} {h : xH} {o : (Int32 × xH)} {R : Option xV} {H' : xH} (hD : 8 ≤ d) (hf : f_M_when_b79 v3 h = some o) (K0 : ∀ (a : Int32) (h1 : xH), o = (a, h1) → R = some (xi a) ∧ H' = h1) : xEv g l d 215 79 [(0, xr 12 (some 0)), (3, xi v3)] [] h R H' := by
  unfold f_M_when_b79 at hf
  refine xs_aload_n d215_79 rfl ?_
  obtain ⟨h13, hc12, hf⟩ := lk_b hf
  refine xe_callv0 (as := []) (st := []) (h2 := h13) (d2 := d - 1) d215_80 ky215 ml254 st213 (by decide) cn213 rfl na213 (Nat.le_of_ble_eq_true rfl) (by omega) (f_M_laysBack_ok (by omega) hc12) ?_
  refine xs_iload_n d215_83 rfl ?_
  obtain ⟨eR, eH⟩ := K0 _ _ (Option.some.inj hf).symm
  subst eR; subst eH
  exact xs_iret d215_84 rt215
noncomputable def f_M_when_b73 (v1 : Int32) (v2 : Int32) (v3 : Int32) (v4 : Int32) (h : xH) : Option ((Int32 × Int32 × xH) ⊕ (Int32 × xH)) :=
  xlet (v4 + (1 : Int32)) fun v4_20 =>
  some (Sum.inl (v3, v4_20, h))
set_option maxHeartbeats 4000000 in
set_option maxRecDepth 100000 in
theorem f_M_when_b73_ok {g : xG} {l : Launch} {d : Nat} {v1 : Int32} {v2 : Int32} {v3 : Int32} {v4 : Int32} {h : xH} {o : ((Int32 × Int32 × xH) ⊕ (Int32 × xH))} {R : Option xV} {H' : xH} (hD : 8 ≤ d) (hf : f_M_when_b73 v1 v2 v3 v4 h = some o) (K1 : ∀ (w3 : Int32) (w4 : Int32) (h1 : xH), o = Sum.inl (w3, w4, h1) → xEv g l d 215 30 [(0, xr 12 (some 0)), (1, xi v1), (2, xi v2), (3, xi w3), (4, xi w4)] [] h1 R H') (K0 : ∀ (a : Int32) (h1 : xH), o = Sum.inr ((a, h1)) → R = some (xi a) ∧ H' = h1) : xEv g l d 215 73 [(0, xr 12 (some 0)), (1, xi v1), (2, xi v2), (3, xi v3), (4, xi v4)] [] h R H' := by
  unfold f_M_when_b73 at hf
  obtain ⟨v4_20, ev4_20, hf⟩ := lk_let hf
  refine xe_iinc (v := v4_20) (b := 1) (ls2 := [(0, xr 12 (some 0)), (1, xi v1), (2, xi v2), (3, xi v3), (4, xi v4_20)]) d215_73 mx215 (by decide) rfl (by decide) ev4_20 rfl ?_
  refine xs_goto (tgt := 30) d215_76 (by decide) ?_
  exact K1 _ _ _ (Option.some.inj hf).symm
noncomputable def f_M_when_b72 (v1 : Int32) (v2 : Int32) (v4 : Int32) (t0 : Int32) (h : xH) : Option ((Int32 × Int32 × xH) ⊕ (Int32 × xH)) :=
  f_M_when_b73 v1 v2 t0 v4 h
set_option maxHeartbeats 4000000 in
set_option maxRecDepth 100000 in
theorem f_M_when_b72_ok {g : xG} {l : Launch} {d : Nat} {v1 : Int32} {v2 : Int32} {v4 : Int32} {t0 : Int32} {h : xH} {o : ((Int32 × Int32 × xH) ⊕ (Int32 × xH))} {R : Option xV} {H' : xH} (hD : 8 ≤ d) (hf : f_M_when_b72 v1 v2 v4 t0 h = some o) (K1 : ∀ (w3 : Int32) (w4 : Int32) (h1 : xH), o = Sum.inl (w3, w4, h1) → xEv g l d 215 30 [(0, xr 12 (some 0)), (1, xi v1), (2, xi v2), (3, xi w3), (4, xi w4)] [] h1 R H') (K0 : ∀ (a : Int32) (h1 : xH), o = Sum.inr ((a, h1)) → R = some (xi a) ∧ H' = h1) : xEv g l d 215 72 [(0, xr 12 (some 0)), (1, xi v1), (2, xi v2), (4, xi v4)] [xi t0] h R H' := by
  unfold f_M_when_b72 at hf
  refine xe_istore_n (v := t0) (ls2 := [(0, xr 12 (some 0)), (1, xi v1), (2, xi v2), (3, xi t0), (4, xi v4)]) d215_72 mx215 (by decide) rfl rfl ?_
  exact f_M_when_b73_ok hD hf K1 K0
noncomputable def f_M_when_s30 (v1 : Int32) (v2 : Int32) (v3 : Int32) (v4 : Int32) (h : xH) : Option ((Int32 × Int32 × xH) ⊕ (Int32 × xH)) :=
  if (100 : Int32) ≤ v4 then (
  xup (f_M_when_b79 v3 h)) else (
  if (0 : Int32) ≤ v3 then (
  xup (f_M_when_b79 v3 h)) else (
  (f_M_passes h).bind fun q17 =>
  if q17.1 = v1 then (
  if v2 = (0 : Int32) then (
  f_M_when_b72 v1 v2 v4 ((q17.2.2.2.2.1 56 0 ((11 : Int32)).toNatClampNeg) - (1 : Int32)) q17.2) else (
  f_M_when_b72 v1 v2 v4 (q17.2.2.2.2.1 56 0 ((10 : Int32)).toNatClampNeg) q17.2)) else (
  f_M_when_b73 v1 v2 v3 v4 q17.2)))
set_option maxHeartbeats 4000000 in
set_option maxRecDepth 100000 in
theorem f_M_when_s30_ok {g : xG} {l : Launch} {d : Nat} {v1 : Int32} {v2 : Int32} {v3 : Int32} {v4 : Int32} {h : xH} {o : ((Int32 × Int32 × xH) ⊕ (Int32 × xH))} {R : Option xV} {H' : xH} (hD : 8 ≤ d) (hf : f_M_when_s30 v1 v2 v3 v4 h = some o) (K1 : ∀ (w3 : Int32) (w4 : Int32) (h1 : xH), o = Sum.inl (w3, w4, h1) → xEv g l d 215 30 [(0, xr 12 (some 0)), (1, xi v1), (2, xi v2), (3, xi w3), (4, xi w4)] [] h1 R H') (K0 : ∀ (a : Int32) (h1 : xH), o = Sum.inr ((a, h1)) → R = some (xi a) ∧ H' = h1) : xEv g l d 215 30 [(0, xr 12 (some 0)), (1, xi v1), (2, xi v2), (3, xi v3), (4, xi v4)] [] h R H' := by
  unfold f_M_when_s30 at hf
  refine xs_iload d215_30 rfl ?_
  refine xs_bipush (v := 100) d215_32 (by decide) ?_
  rcases lk_if hf with ⟨hc10, hf⟩ | ⟨hc10, hf⟩
  · refine xs_icmp_ge (tgt := 79) d215_34 (by decide) (fun _ => ?_) (fun hn => absurd hc10 hn)
    refine xs_pick [0, 3] rfl ?_
    obtain ⟨x0, hf, ex0⟩ := lk_up hf
    exact f_M_when_b79_ok hD hf (fun u0 u1 e => K0 u0 u1 (ex0.trans (congrArg Sum.inr e)))
  · refine xs_icmp_ge (tgt := 79) d215_34 (by decide) (fun hp => absurd hp hc10) (fun _ => ?_)
    refine xs_iload_n d215_37 rfl ?_
    rcases lk_if hf with ⟨hc14, hf⟩ | ⟨hc14, hf⟩
    · refine xs_if_ge (tgt := 79) d215_38 (by decide) (fun _ => ?_) (fun hn => absurd hc14 hn)
      refine xs_pick [0, 3] rfl ?_
      obtain ⟨x0, hf, ex0⟩ := lk_up hf
      exact f_M_when_b79_ok hD hf (fun u0 u1 e => K0 u0 u1 (ex0.trans (congrArg Sum.inr e)))
    · refine xs_if_ge (tgt := 79) d215_38 (by decide) (fun hp => absurd hp hc14) (fun _ => ?_)
      refine xs_aload_n d215_41 rfl ?_
      obtain ⟨q17, hc16, hf⟩ := lk_b hf
      refine xe_callv1 (as := []) (st := []) (h2 := q17.2) (d2 := d - 1) d215_42 ky215 ml227 st203 (by decide) cn203 rfl na203 (Nat.le_of_ble_eq_true rfl) (by omega) (f_M_passes_ok (by omega) hc16) ?_
      refine xs_iload_n d215_45 rfl ?_
      rcases lk_if hf with ⟨hc18, hf⟩ | ⟨hc18, hf⟩
      · refine xs_icmp_ne (tgt := 73) d215_46 (by decide) (fun _ => ?_) (fun hn => absurd hc18 hn)
        refine xs_iload_n d215_49 rfl ?_
        rcases lk_if hf with ⟨hc19, hf⟩ | ⟨hc19, hf⟩
        · refine xs_if_ne (tgt := 65) d215_50 (by decide) (fun _ => ?_) (fun hn => absurd hc19 hn)
          refine xs_aload_n d215_53 rfl ?_
          refine xe_getc (j := 0) d215_54 ky215 fl181 fk12_20 rfl ?_
          refine xs_bipush (v := 11) d215_57 (by decide) ?_
          refine xe_iald d215_59 (by decide) ak56 (show xib (11 : Int32) 101 by decide) ?_
          refine xs_iconst (v := 1) d215_60 (by decide) ?_
          refine xs_isub d215_61 ?_
          refine xs_goto (tgt := 72) d215_62 (by decide) ?_
          refine xs_pick [0, 1, 2, 4] rfl ?_
          exact f_M_when_b72_ok hD hf K1 K0
        · refine xs_if_ne (tgt := 65) d215_50 (by decide) (fun hp => absurd hp hc19) (fun _ => ?_)
          refine xs_aload_n d215_65 rfl ?_
          refine xe_getc (j := 0) d215_66 ky215 fl181 fk12_20 rfl ?_
          refine xs_bipush (v := 10) d215_69 (by decide) ?_
          refine xe_iald d215_71 (by decide) ak56 (show xib (10 : Int32) 101 by decide) ?_
          refine xs_pick [0, 1, 2, 4] rfl ?_
          exact f_M_when_b72_ok hD hf K1 K0
      · refine xs_icmp_ne (tgt := 73) d215_46 (by decide) (fun hp => absurd hp hc18) (fun _ => ?_)
        exact f_M_when_b73_ok hD hf K1 K0
noncomputable def f_M_when_l30 (v1 : Int32) (v2 : Int32) (v3 : Int32) (v4 : Int32) (h : xH) : Option (Int32 × xH) :=
  whl (fun s => f_M_when_s30 v1 v2 s.1 s.2.1 s.2.2) (v3, v4, h)
theorem f_M_when_l30_ok {g : xG} {l : Launch} {d : Nat} {v1 : Int32} {v2 : Int32} {v3 : Int32} {v4 : Int32} {h : xH} {o : (Int32 × xH)} {R : Option xV} {H' : xH} (hD : 8 ≤ d) (hf : f_M_when_l30 v1 v2 v3 v4 h = some o) (K0 : ∀ (a : Int32) (h1 : xH), o = (a, h1) → R = some (xi a) ∧ H' = h1) : xEv g l d 215 30 [(0, xr 12 (some 0)), (1, xi v1), (2, xi v2), (3, xi v3), (4, xi v4)] [] h R H' := by
  obtain ⟨n, hn⟩ := whl_iff.mp hf
  clear hf
  induction n generalizing v3 v4 h with
  | zero => cases hn
  | succ n ih =>
    obtain ⟨o2, hs, hn⟩ := lk_b (show (f_M_when_s30 v1 v2 v3 v4 h).bind (fun o => Sum.elim (itn _ n) some o) = some o from hn)
    exact f_M_when_s30_ok hD hs (fun u0 u1 u2 e => ih (by rw [e] at hn; exact hn)) (fun u0 u1 e => K0 u0 u1 (by rw [e] at hn; exact (Option.some.inj hn).symm))
noncomputable def f_M_when_e (v1 : Int32) (v2 : Int32) (h : xH) : Option (Int32 × xH) :=
  (f_M_isInside_i v1 h).bind fun r1 =>
  if r1 = (0 : Int32) then (
  some (((-1 : Int32), h))) else (
  (f_M_in ((v2).toInt64) (0 : Int64) (1 : Int64) h).bind fun r4 =>
  if r4 = (0 : Int32) then (
  some (((-1 : Int32), h))) else (
  (f_M_keeps h).bind fun h9 =>
  f_M_when_l30 v1 v2 (-2 : Int32) (0 : Int32) h9))
set_option maxHeartbeats 4000000 in
set_option maxRecDepth 100000 in
theorem f_M_when_e_ok {g : xG} {l : Launch} {d : Nat} {v1 : Int32} {v2 : Int32} {h : xH} {o : (Int32 × xH)} {R : Option xV} {H' : xH} (hD : 8 ≤ d) (hf : f_M_when_e v1 v2 h = some o) (K0 : ∀ (a : Int32) (h1 : xH), o = (a, h1) → R = some (xi a) ∧ H' = h1) : xEv g l d 215 0 [(0, xr 12 (some 0)), (1, xi v1), (2, xi v2)] [] h R H' := by
  unfold f_M_when_e at hf
  refine xs_aload_n d215_0 rfl ?_
  refine xs_iload_n d215_1 rfl ?_
  obtain ⟨r1, hc2, hf⟩ := lk_b hf
  refine xe_callv1 (as := [xi v1]) (st := []) (h2 := h) (d2 := d - 1) d215_2 ky215 ml230 st186 (by decide) cn186 rfl na186 (Nat.le_of_ble_eq_true rfl) (by omega) (f_M_isInside_i_ok (by omega) hc2) ?_
  rcases lk_if hf with ⟨hc3, hf⟩ | ⟨hc3, hf⟩
  · refine xs_if_eq (tgt := 18) d215_5 (by decide) (fun _ => ?_) (fun hn => absurd hc3 hn)
    refine xs_iconst (v := -1) d215_18 (by decide) ?_
    obtain ⟨eR, eH⟩ := K0 _ _ (Option.some.inj hf).symm
    subst eR; subst eH
    exact xs_iret d215_19 rt215
  · refine xs_if_eq (tgt := 18) d215_5 (by decide) (fun hp => absurd hp hc3) (fun _ => ?_)
    refine xs_iload_n d215_8 rfl ?_
    refine xs_i2l d215_9 ?_
    refine xs_lconst (v := 0) d215_10 (by decide) ?_
    refine xs_lconst (v := 1) d215_11 (by decide) ?_
    obtain ⟨r4, hc5, hf⟩ := lk_b hf
    refine xe_calls1 (as := [xl ((v2).toInt64), xl (0 : Int64), xl (1 : Int64)]) (st := []) (h2 := h) (d2 := d - 1) d215_12 ky215 ml196 st139 rfl na139 (Nat.le_of_ble_eq_true rfl) (by omega) (f_M_in_ok (by omega) hc5) ?_
    rcases lk_if hf with ⟨hc6, hf⟩ | ⟨hc6, hf⟩
    · refine xs_if_ne (tgt := 20) d215_15 (by decide) (fun _ => ?_) (fun hn => absurd hc6 hn)
      refine xs_iconst (v := -1) d215_18 (by decide) ?_
      obtain ⟨eR, eH⟩ := K0 _ _ (Option.some.inj hf).symm
      subst eR; subst eH
      exact xs_iret d215_19 rt215
    · refine xs_if_ne (tgt := 20) d215_15 (by decide) (fun hp => absurd hp hc6) (fun _ => ?_)
      refine xs_bipush (v := -2) d215_20 (by decide) ?_
      refine xe_istore_n (v := (-2 : Int32)) (ls2 := [(0, xr 12 (some 0)), (1, xi v1), (2, xi v2), (3, xi (-2 : Int32))]) d215_22 mx215 (by decide) rfl rfl ?_
      refine xs_aload_n d215_23 rfl ?_
      obtain ⟨h9, hc8, hf⟩ := lk_b hf
      refine xe_callv0 (as := []) (st := []) (h2 := h9) (d2 := d - 1) d215_24 ky215 ml252 st212 (by decide) cn212 rfl na212 (Nat.le_of_ble_eq_true rfl) (by omega) (f_M_keeps_ok (by omega) hc8) ?_
      refine xs_iconst (v := 0) d215_27 (by decide) ?_
      refine xe_istore (v := (0 : Int32)) (ls2 := [(0, xr 12 (some 0)), (1, xi v1), (2, xi v2), (3, xi (-2 : Int32)), (4, xi (0 : Int32))]) d215_28 mx215 (by decide) rfl rfl ?_
      exact f_M_when_l30_ok hD hf K0
noncomputable def f_M_when (v1 : Int32) (v2 : Int32) (h : xH) : Option (Int32 × xH) := f_M_when_e v1 v2 h
theorem f_M_when_ok {g : xG} {l : Launch} {d : Nat} {v1 : Int32} {v2 : Int32} {h : xH} {r : Int32} {h1 : xH} (hD : 8 ≤ d) (hf : f_M_when v1 v2 h = some (r, h1)) : xC g l d 215 [xr 12 (some 0), xi v1, xi v2] h (some (xi r)) h1 :=
  xC_of2 (by decide) mx215 (Nat.le_of_ble_eq_true rfl) (f_M_when_e_ok hD hf (fun _ _ e => by cases e; exact ⟨rfl, rfl⟩))
theorem d216_0 : decode (xcode 216) 0 = .ok (.aload_n 0, 1) := by decide +kernel
theorem d216_1 : decode (xcode 216) 1 = .ok (.invokevirtual 349, 3) := by decide +kernel
theorem d216_4 : decode (xcode 216) 4 = .ok (.ifCond .eq 15, 3) := by decide +kernel
theorem d216_7 : decode (xcode 216) 7 = .ok (.iload_n 1, 1) := by decide +kernel
theorem d216_8 : decode (xcode 216) 8 = .ok (.i2l, 1) := by decide +kernel
theorem d216_9 : decode (xcode 216) 9 = .ok (.lconst 0, 1) := by decide +kernel
theorem d216_10 : decode (xcode 216) 10 = .ok (.ldc2_w 372, 3) := by decide +kernel
theorem d216_13 : decode (xcode 216) 13 = .ok (.invokestatic 124, 3) := by decide +kernel
theorem d216_16 : decode (xcode 216) 16 = .ok (.ifCond .ne 5, 3) := by decide +kernel
theorem d216_19 : decode (xcode 216) 19 = .ok (.iconst (-1), 1) := by decide +kernel
theorem d216_20 : decode (xcode 216) 20 = .ok (.ireturn, 1) := by decide +kernel
theorem d216_21 : decode (xcode 216) 21 = .ok (.iconst 0, 1) := by decide +kernel
theorem d216_22 : decode (xcode 216) 22 = .ok (.istore_n 2, 1) := by decide +kernel
theorem d216_23 : decode (xcode 216) 23 = .ok (.iconst 0, 1) := by decide +kernel
theorem d216_24 : decode (xcode 216) 24 = .ok (.istore_n 3, 1) := by decide +kernel
theorem d216_25 : decode (xcode 216) 25 = .ok (.bipush (-2), 2) := by decide +kernel
theorem d216_27 : decode (xcode 216) 27 = .ok (.istore 4, 2) := by decide +kernel
theorem d216_29 : decode (xcode 216) 29 = .ok (.aload_n 0, 1) := by decide +kernel
theorem d216_30 : decode (xcode 216) 30 = .ok (.invokevirtual 363, 3) := by decide +kernel
theorem d216_33 : decode (xcode 216) 33 = .ok (.iconst 0, 1) := by decide +kernel
theorem d216_34 : decode (xcode 216) 34 = .ok (.istore 5, 2) := by decide +kernel
theorem d216_36 : decode (xcode 216) 36 = .ok (.iload 5, 2) := by decide +kernel
theorem d216_38 : decode (xcode 216) 38 = .ok (.bipush 100, 2) := by decide +kernel
theorem d216_40 : decode (xcode 216) 40 = .ok (.if_icmp .ge 57, 3) := by decide +kernel
theorem d216_43 : decode (xcode 216) 43 = .ok (.aload_n 0, 1) := by decide +kernel
theorem d216_44 : decode (xcode 216) 44 = .ok (.invokevirtual 346, 3) := by decide +kernel
theorem d216_47 : decode (xcode 216) 47 = .ok (.istore 6, 2) := by decide +kernel
theorem d216_49 : decode (xcode 216) 49 = .ok (.iload 6, 2) := by decide +kernel
theorem d216_51 : decode (xcode 216) 51 = .ok (.ifCond .lt 40, 3) := by decide +kernel
theorem d216_54 : decode (xcode 216) 54 = .ok (.aload_n 0, 1) := by decide +kernel
theorem d216_55 : decode (xcode 216) 55 = .ok (.getfield 39, 3) := by decide +kernel
theorem d216_58 : decode (xcode 216) 58 = .ok (.bipush 12, 2) := by decide +kernel
theorem d216_60 : decode (xcode 216) 60 = .ok (.iload 6, 2) := by decide +kernel
theorem d216_62 : decode (xcode 216) 62 = .ok (.iadd, 1) := by decide +kernel
theorem d216_63 : decode (xcode 216) 63 = .ok (.iaload, 1) := by decide +kernel
theorem d216_64 : decode (xcode 216) 64 = .ok (.iconst 1, 1) := by decide +kernel
theorem d216_65 : decode (xcode 216) 65 = .ok (.if_icmp .eq 6, 3) := by decide +kernel
theorem d216_68 : decode (xcode 216) 68 = .ok (.goto 23, 3) := by decide +kernel
theorem d216_71 : decode (xcode 216) 71 = .ok (.iinc 2 1, 3) := by decide +kernel
theorem d216_74 : decode (xcode 216) 74 = .ok (.iload_n 3, 1) := by decide +kernel
theorem d216_75 : decode (xcode 216) 75 = .ok (.aload_n 0, 1) := by decide +kernel
theorem d216_76 : decode (xcode 216) 76 = .ok (.getfield 39, 3) := by decide +kernel
theorem d216_79 : decode (xcode 216) 79 = .ok (.bipush 52, 2) := by decide +kernel
theorem d216_81 : decode (xcode 216) 81 = .ok (.iload 6, 2) := by decide +kernel
theorem d216_83 : decode (xcode 216) 83 = .ok (.iadd, 1) := by decide +kernel
theorem d216_84 : decode (xcode 216) 84 = .ok (.iaload, 1) := by decide +kernel
theorem d216_85 : decode (xcode 216) 85 = .ok (.iadd, 1) := by decide +kernel
theorem d216_86 : decode (xcode 216) 86 = .ok (.istore_n 3, 1) := by decide +kernel
theorem d216_87 : decode (xcode 216) 87 = .ok (.iload 6, 2) := by decide +kernel
theorem d216_89 : decode (xcode 216) 89 = .ok (.istore 4, 2) := by decide +kernel
theorem d216_91 : decode (xcode 216) 91 = .ok (.iinc 5 1, 3) := by decide +kernel
theorem d216_94 : decode (xcode 216) 94 = .ok (.goto (-58), 3) := by decide +kernel
theorem d216_97 : decode (xcode 216) 97 = .ok (.aload_n 0, 1) := by decide +kernel
theorem d216_98 : decode (xcode 216) 98 = .ok (.invokevirtual 369, 3) := by decide +kernel
theorem d216_101 : decode (xcode 216) 101 = .ok (.iload_n 1, 1) := by decide +kernel
theorem d216_102 : decode (xcode 216) 102 = .ok (.ifCond .ne 7, 3) := by decide +kernel
theorem d216_105 : decode (xcode 216) 105 = .ok (.iload_n 2, 1) := by decide +kernel
theorem d216_106 : decode (xcode 216) 106 = .ok (.goto 14, 3) := by decide +kernel
theorem d216_109 : decode (xcode 216) 109 = .ok (.iload_n 1, 1) := by decide +kernel
theorem d216_110 : decode (xcode 216) 110 = .ok (.iconst 1, 1) := by decide +kernel
theorem d216_111 : decode (xcode 216) 111 = .ok (.if_icmp .ne 7, 3) := by decide +kernel
theorem d216_114 : decode (xcode 216) 114 = .ok (.iload_n 3, 1) := by decide +kernel
theorem d216_115 : decode (xcode 216) 115 = .ok (.goto 5, 3) := by decide +kernel
theorem d216_118 : decode (xcode 216) 118 = .ok (.iload 4, 2) := by decide +kernel
theorem d216_120 : decode (xcode 216) 120 = .ok (.ireturn, 1) := by decide +kernel
noncomputable def f_M_dusk_b97 (v1 : Int32) (v2 : Int32) (v3 : Int32) (v4 : Int32) (h : xH) : Option (Int32 × xH) :=
  (f_M_laysBack h).bind fun h13 =>
  if v1 = (0 : Int32) then (
  some ((v2, h13))) else (
  if v1 = (1 : Int32) then (
  some ((v3, h13))) else (
  some ((v4, h13))))
set_option maxHeartbeats 4000000 in
set_option maxRecDepth 100000 in
theorem f_M_dusk_b97_ok {g : xG} {l : Launch} {d : Nat} {v1 : Int32} {v2 : Int32} {v3 : Int32} {v4 : Int32} {h : xH} {o : (Int32 × xH)} {R : Option xV} {H' : xH} (hD : 8 ≤ d) (hf : f_M_dusk_b97 v1 v2 v3 v4 h = some o) (K0 : ∀ (a : Int32) (h1 : xH), o = (a, h1) → R = some (xi a) ∧ H' = h1) : xEv g l d 216 97 [(0, xr 12 (some 0)), (1, xi v1), (2, xi v2), (3, xi v3), (4, xi v4)] [] h R H' := by
  unfold f_M_dusk_b97 at hf
  refine xs_aload_n d216_97 rfl ?_
  obtain ⟨h13, hc12, hf⟩ := lk_b hf
  refine xe_callv0 (as := []) (st := []) (h2 := h13) (d2 := d - 1) d216_98 ky216 ml254 st213 (by decide) cn213 rfl na213 (Nat.le_of_ble_eq_true rfl) (by omega) (f_M_laysBack_ok (by omega) hc12) ?_
  refine xs_iload_n d216_101 rfl ?_
  rcases lk_if hf with ⟨hc14, hf⟩ | ⟨hc14, hf⟩
  · refine xs_if_ne (tgt := 109) d216_102 (by decide) (fun _ => ?_) (fun hn => absurd hc14 hn)
    refine xs_iload_n d216_105 rfl ?_
    refine xs_goto (tgt := 120) d216_106 (by decide) ?_
    obtain ⟨eR, eH⟩ := K0 _ _ (Option.some.inj hf).symm
    subst eR; subst eH
    exact xs_iret d216_120 rt216
  · refine xs_if_ne (tgt := 109) d216_102 (by decide) (fun hp => absurd hp hc14) (fun _ => ?_)
    refine xs_iload_n d216_109 rfl ?_
    refine xs_iconst (v := 1) d216_110 (by decide) ?_
    rcases lk_if hf with ⟨hc15, hf⟩ | ⟨hc15, hf⟩
    · refine xs_icmp_ne (tgt := 118) d216_111 (by decide) (fun _ => ?_) (fun hn => absurd hc15 hn)
      refine xs_iload_n d216_114 rfl ?_
      refine xs_goto (tgt := 120) d216_115 (by decide) ?_
      obtain ⟨eR, eH⟩ := K0 _ _ (Option.some.inj hf).symm
      subst eR; subst eH
      exact xs_iret d216_120 rt216
    · refine xs_icmp_ne (tgt := 118) d216_111 (by decide) (fun hp => absurd hp hc15) (fun _ => ?_)
      refine xs_iload d216_118 rfl ?_
      obtain ⟨eR, eH⟩ := K0 _ _ (Option.some.inj hf).symm
      subst eR; subst eH
      exact xs_iret d216_120 rt216
noncomputable def f_M_dusk_b91 (v1 : Int32) (v2 : Int32) (v3 : Int32) (v4 : Int32) (v5 : Int32) (h : xH) : Option ((Int32 × Int32 × Int32 × Int32 × xH) ⊕ (Int32 × xH)) :=
  xlet (v5 + (1 : Int32)) fun v5_20 =>
  some (Sum.inl (v2, v3, v4, v5_20, h))
set_option maxHeartbeats 4000000 in
set_option maxRecDepth 100000 in
theorem f_M_dusk_b91_ok {g : xG} {l : Launch} {d : Nat} {v1 : Int32} {v2 : Int32} {v3 : Int32} {v4 : Int32} {v5 : Int32} {h : xH} {o : ((Int32 × Int32 × Int32 × Int32 × xH) ⊕ (Int32 × xH))} {R : Option xV} {H' : xH} (hD : 8 ≤ d) (hf : f_M_dusk_b91 v1 v2 v3 v4 v5 h = some o) (K1 : ∀ (w2 : Int32) (w3 : Int32) (w4 : Int32) (w5 : Int32) (h1 : xH), o = Sum.inl (w2, w3, w4, w5, h1) → xEv g l d 216 36 [(0, xr 12 (some 0)), (1, xi v1), (2, xi w2), (3, xi w3), (4, xi w4), (5, xi w5)] [] h1 R H') (K0 : ∀ (a : Int32) (h1 : xH), o = Sum.inr ((a, h1)) → R = some (xi a) ∧ H' = h1) : xEv g l d 216 91 [(0, xr 12 (some 0)), (1, xi v1), (2, xi v2), (3, xi v3), (4, xi v4), (5, xi v5)] [] h R H' := by
  unfold f_M_dusk_b91 at hf
  obtain ⟨v5_20, ev5_20, hf⟩ := lk_let hf
  refine xe_iinc (v := v5_20) (b := 1) (ls2 := [(0, xr 12 (some 0)), (1, xi v1), (2, xi v2), (3, xi v3), (4, xi v4), (5, xi v5_20)]) d216_91 mx216 (by decide) rfl (by decide) ev5_20 rfl ?_
  refine xs_goto (tgt := 36) d216_94 (by decide) ?_
  exact K1 _ _ _ _ _ (Option.some.inj hf).symm
noncomputable def f_M_dusk_s36 (v1 : Int32) (v2 : Int32) (v3 : Int32) (v4 : Int32) (v5 : Int32) (h : xH) : Option ((Int32 × Int32 × Int32 × Int32 × xH) ⊕ (Int32 × xH)) :=
  if (100 : Int32) ≤ v5 then (
  xup (f_M_dusk_b97 v1 v2 v3 v4 h)) else (
  (f_M_passes h).bind fun q18 =>
  if q18.1 < (0 : Int32) then (
  f_M_dusk_b91 v1 v2 v3 v4 v5 q18.2) else (
  if xib ((12 : Int32) + q18.1) 101 then (
  if (q18.2.2.2.2.1 56 0 ((12 : Int32) + q18.1).toNatClampNeg) = (1 : Int32) then (
  xlet (v2 + (1 : Int32)) fun v2_23 =>
  if xib ((52 : Int32) + q18.1) 101 then (
  xlet (v3 + (q18.2.2.2.2.1 56 0 ((52 : Int32) + q18.1).toNatClampNeg)) fun v3_25 =>
  f_M_dusk_b91 v1 v2_23 v3_25 q18.1 v5 q18.2) else none) else (
  f_M_dusk_b91 v1 v2 v3 v4 v5 q18.2)) else none))
set_option maxHeartbeats 4000000 in
set_option maxRecDepth 100000 in
theorem f_M_dusk_s36_ok {g : xG} {l : Launch} {d : Nat} {v1 : Int32} {v2 : Int32} {v3 : Int32} {v4 : Int32} {v5 : Int32} {h : xH} {o : ((Int32 × Int32 × Int32 × Int32 × xH) ⊕ (Int32 × xH))} {R : Option xV} {H' : xH} (hD : 8 ≤ d) (hf : f_M_dusk_s36 v1 v2 v3 v4 v5 h = some o) (K1 : ∀ (w2 : Int32) (w3 : Int32) (w4 : Int32) (w5 : Int32) (h1 : xH), o = Sum.inl (w2, w3, w4, w5, h1) → xEv g l d 216 36 [(0, xr 12 (some 0)), (1, xi v1), (2, xi w2), (3, xi w3), (4, xi w4), (5, xi w5)] [] h1 R H') (K0 : ∀ (a : Int32) (h1 : xH), o = Sum.inr ((a, h1)) → R = some (xi a) ∧ H' = h1) : xEv g l d 216 36 [(0, xr 12 (some 0)), (1, xi v1), (2, xi v2), (3, xi v3), (4, xi v4), (5, xi v5)] [] h R H' := by
  unfold f_M_dusk_s36 at hf
  refine xs_iload d216_36 rfl ?_
  refine xs_bipush (v := 100) d216_38 (by decide) ?_
  rcases lk_if hf with ⟨hc10, hf⟩ | ⟨hc10, hf⟩
  · refine xs_icmp_ge (tgt := 97) d216_40 (by decide) (fun _ => ?_) (fun hn => absurd hc10 hn)
    refine xs_pick [0, 1, 2, 3, 4] rfl ?_
    obtain ⟨x0, hf, ex0⟩ := lk_up hf
    exact f_M_dusk_b97_ok hD hf (fun u0 u1 e => K0 u0 u1 (ex0.trans (congrArg Sum.inr e)))
  · refine xs_icmp_ge (tgt := 97) d216_40 (by decide) (fun hp => absurd hp hc10) (fun _ => ?_)
    refine xs_aload_n d216_43 rfl ?_
    obtain ⟨q18, hc17, hf⟩ := lk_b hf
    refine xe_callv1 (as := []) (st := []) (h2 := q18.2) (d2 := d - 1) d216_44 ky216 ml227 st203 (by decide) cn203 rfl na203 (Nat.le_of_ble_eq_true rfl) (by omega) (f_M_passes_ok (by omega) hc17) ?_
    refine xe_istore (v := q18.1) (ls2 := [(0, xr 12 (some 0)), (1, xi v1), (2, xi v2), (3, xi v3), (4, xi v4), (5, xi v5), (6, xi q18.1)]) d216_47 mx216 (by decide) rfl rfl ?_
    refine xs_iload d216_49 rfl ?_
    rcases lk_if hf with ⟨hc19, hf⟩ | ⟨hc19, hf⟩
    · refine xs_if_lt (tgt := 91) d216_51 (by decide) (fun _ => ?_) (fun hn => absurd hc19 hn)
      refine xs_pick [0, 1, 2, 3, 4, 5] rfl ?_
      exact f_M_dusk_b91_ok hD hf K1 K0
    · refine xs_if_lt (tgt := 91) d216_51 (by decide) (fun hp => absurd hp hc19) (fun _ => ?_)
      refine xs_aload_n d216_54 rfl ?_
      refine xe_getc (j := 0) d216_55 ky216 fl181 fk12_20 rfl ?_
      refine xs_bipush (v := 12) d216_58 (by decide) ?_
      refine xs_iload d216_60 rfl ?_
      refine xs_iadd d216_62 ?_
      obtain ⟨hin21, hf⟩ := lk_g hf
      refine xe_iald d216_63 (by decide) ak56 hin21 ?_
      refine xs_iconst (v := 1) d216_64 (by decide) ?_
      rcases lk_if hf with ⟨hc22, hf⟩ | ⟨hc22, hf⟩
      · refine xs_icmp_eq (tgt := 71) d216_65 (by decide) (fun _ => ?_) (fun hn => absurd hc22 hn)
        obtain ⟨v2_23, ev2_23, hf⟩ := lk_let hf
        refine xe_iinc (v := v2_23) (b := 1) (ls2 := [(0, xr 12 (some 0)), (1, xi v1), (2, xi v2_23), (3, xi v3), (4, xi v4), (5, xi v5), (6, xi q18.1)]) d216_71 mx216 (by decide) rfl (by decide) ev2_23 rfl ?_
        refine xs_iload_n d216_74 rfl ?_
        refine xs_aload_n d216_75 rfl ?_
        refine xe_getc (j := 0) d216_76 ky216 fl181 fk12_20 rfl ?_
        refine xs_bipush (v := 52) d216_79 (by decide) ?_
        refine xs_iload d216_81 rfl ?_
        refine xs_iadd d216_83 ?_
        obtain ⟨hin24, hf⟩ := lk_g hf
        refine xe_iald d216_84 (by decide) ak56 hin24 ?_
        refine xs_iadd d216_85 ?_
        obtain ⟨v3_25, ev3_25, hf⟩ := lk_let hf
        refine xe_istore_n (v := v3_25) (ls2 := [(0, xr 12 (some 0)), (1, xi v1), (2, xi v2_23), (3, xi v3_25), (4, xi v4), (5, xi v5), (6, xi q18.1)]) d216_86 mx216 (by decide) ev3_25 rfl ?_
        refine xs_iload d216_87 rfl ?_
        refine xe_istore (v := q18.1) (ls2 := [(0, xr 12 (some 0)), (1, xi v1), (2, xi v2_23), (3, xi v3_25), (4, xi q18.1), (5, xi v5), (6, xi q18.1)]) d216_89 mx216 (by decide) rfl rfl ?_
        refine xs_pick [0, 1, 2, 3, 4, 5] rfl ?_
        exact f_M_dusk_b91_ok hD hf K1 K0
      · refine xs_icmp_eq (tgt := 71) d216_65 (by decide) (fun hp => absurd hp hc22) (fun _ => ?_)
        refine xs_goto (tgt := 91) d216_68 (by decide) ?_
        refine xs_pick [0, 1, 2, 3, 4, 5] rfl ?_
        exact f_M_dusk_b91_ok hD hf K1 K0
noncomputable def f_M_dusk_l36 (v1 : Int32) (v2 : Int32) (v3 : Int32) (v4 : Int32) (v5 : Int32) (h : xH) : Option (Int32 × xH) :=
  whl (fun s => f_M_dusk_s36 v1 s.1 s.2.1 s.2.2.1 s.2.2.2.1 s.2.2.2.2) (v2, v3, v4, v5, h)
theorem f_M_dusk_l36_ok {g : xG} {l : Launch} {d : Nat} {v1 : Int32} {v2 : Int32} {v3 : Int32} {v4 : Int32} {v5 : Int32} {h : xH} {o : (Int32 × xH)} {R : Option xV} {H' : xH} (hD : 8 ≤ d) (hf : f_M_dusk_l36 v1 v2 v3 v4 v5 h = some o) (K0 : ∀ (a : Int32) (h1 : xH), o = (a, h1) → R = some (xi a) ∧ H' = h1) : xEv g l d 216 36 [(0, xr 12 (some 0)), (1, xi v1), (2, xi v2), (3, xi v3), (4, xi v4), (5, xi v5)] [] h R H' := by
  obtain ⟨n, hn⟩ := whl_iff.mp hf
  clear hf
  induction n generalizing v2 v3 v4 v5 h with
  | zero => cases hn
  | succ n ih =>
    obtain ⟨o2, hs, hn⟩ := lk_b (show (f_M_dusk_s36 v1 v2 v3 v4 v5 h).bind (fun o => Sum.elim (itn _ n) some o) = some o from hn)
    exact f_M_dusk_s36_ok hD hs (fun u0 u1 u2 u3 u4 e => ih (by rw [e] at hn; exact hn)) (fun u0 u1 e => K0 u0 u1 (by rw [e] at hn; exact (Option.some.inj hn).symm))
noncomputable def f_M_dusk_e (v1 : Int32) (h : xH) : Option (Int32 × xH) :=
  (f_M_isTrug h).bind fun r1 =>
  if r1 = (0 : Int32) then (
  some (((-1 : Int32), h))) else (
  (f_M_in ((v1).toInt64) (0 : Int64) (2 : Int64) h).bind fun r4 =>
  if r4 = (0 : Int32) then (
  some (((-1 : Int32), h))) else (
  (f_M_keeps h).bind fun h9 =>
  f_M_dusk_l36 v1 (0 : Int32) (0 : Int32) (-2 : Int32) (0 : Int32) h9))
set_option maxHeartbeats 4000000 in
set_option maxRecDepth 100000 in
theorem f_M_dusk_e_ok {g : xG} {l : Launch} {d : Nat} {v1 : Int32} {h : xH} {o : (Int32 × xH)} {R : Option xV} {H' : xH} (hD : 8 ≤ d) (hf : f_M_dusk_e v1 h = some o) (K0 : ∀ (a : Int32) (h1 : xH), o = (a, h1) → R = some (xi a) ∧ H' = h1) : xEv g l d 216 0 [(0, xr 12 (some 0)), (1, xi v1)] [] h R H' := by
  unfold f_M_dusk_e at hf
  refine xs_aload_n d216_0 rfl ?_
  obtain ⟨r1, hc2, hf⟩ := lk_b hf
  refine xe_callv1 (as := []) (st := []) (h2 := h) (d2 := d - 1) d216_1 ky216 ml225 st184 (by decide) cn184 rfl na184 (Nat.le_of_ble_eq_true rfl) (by omega) (f_M_isTrug_ok (by omega) hc2) ?_
  rcases lk_if hf with ⟨hc3, hf⟩ | ⟨hc3, hf⟩
  · refine xs_if_eq (tgt := 19) d216_4 (by decide) (fun _ => ?_) (fun hn => absurd hc3 hn)
    refine xs_iconst (v := -1) d216_19 (by decide) ?_
    obtain ⟨eR, eH⟩ := K0 _ _ (Option.some.inj hf).symm
    subst eR; subst eH
    exact xs_iret d216_20 rt216
  · refine xs_if_eq (tgt := 19) d216_4 (by decide) (fun hp => absurd hp hc3) (fun _ => ?_)
    refine xs_iload_n d216_7 rfl ?_
    refine xs_i2l d216_8 ?_
    refine xs_lconst (v := 0) d216_9 (by decide) ?_
    refine xs_ldc2 (v := 2) d216_10 cl12_372 ?_
    obtain ⟨r4, hc5, hf⟩ := lk_b hf
    refine xe_calls1 (as := [xl ((v1).toInt64), xl (0 : Int64), xl (2 : Int64)]) (st := []) (h2 := h) (d2 := d - 1) d216_13 ky216 ml196 st139 rfl na139 (Nat.le_of_ble_eq_true rfl) (by omega) (f_M_in_ok (by omega) hc5) ?_
    rcases lk_if hf with ⟨hc6, hf⟩ | ⟨hc6, hf⟩
    · refine xs_if_ne (tgt := 21) d216_16 (by decide) (fun _ => ?_) (fun hn => absurd hc6 hn)
      refine xs_iconst (v := -1) d216_19 (by decide) ?_
      obtain ⟨eR, eH⟩ := K0 _ _ (Option.some.inj hf).symm
      subst eR; subst eH
      exact xs_iret d216_20 rt216
    · refine xs_if_ne (tgt := 21) d216_16 (by decide) (fun hp => absurd hp hc6) (fun _ => ?_)
      refine xs_iconst (v := 0) d216_21 (by decide) ?_
      refine xe_istore_n (v := (0 : Int32)) (ls2 := [(0, xr 12 (some 0)), (1, xi v1), (2, xi (0 : Int32))]) d216_22 mx216 (by decide) rfl rfl ?_
      refine xs_iconst (v := 0) d216_23 (by decide) ?_
      refine xe_istore_n (v := (0 : Int32)) (ls2 := [(0, xr 12 (some 0)), (1, xi v1), (2, xi (0 : Int32)), (3, xi (0 : Int32))]) d216_24 mx216 (by decide) rfl rfl ?_
      refine xs_bipush (v := -2) d216_25 (by decide) ?_
      refine xe_istore (v := (-2 : Int32)) (ls2 := [(0, xr 12 (some 0)), (1, xi v1), (2, xi (0 : Int32)), (3, xi (0 : Int32)), (4, xi (-2 : Int32))]) d216_27 mx216 (by decide) rfl rfl ?_
      refine xs_aload_n d216_29 rfl ?_
      obtain ⟨h9, hc8, hf⟩ := lk_b hf
      refine xe_callv0 (as := []) (st := []) (h2 := h9) (d2 := d - 1) d216_30 ky216 ml252 st212 (by decide) cn212 rfl na212 (Nat.le_of_ble_eq_true rfl) (by omega) (f_M_keeps_ok (by omega) hc8) ?_
      refine xs_iconst (v := 0) d216_33 (by decide) ?_
      refine xe_istore (v := (0 : Int32)) (ls2 := [(0, xr 12 (some 0)), (1, xi v1), (2, xi (0 : Int32)), (3, xi (0 : Int32)), (4, xi (-2 : Int32)), (5, xi (0 : Int32))]) d216_34 mx216 (by decide) rfl rfl ?_
      exact f_M_dusk_l36_ok hD hf K0
noncomputable def f_M_dusk (v1 : Int32) (h : xH) : Option (Int32 × xH) := f_M_dusk_e v1 h
theorem f_M_dusk_ok {g : xG} {l : Launch} {d : Nat} {v1 : Int32} {h : xH} {r : Int32} {h1 : xH} (hD : 8 ≤ d) (hf : f_M_dusk v1 h = some (r, h1)) : xC g l d 216 [xr 12 (some 0), xi v1] h (some (xi r)) h1 :=
  xC_of2 (by decide) mx216 (Nat.le_of_ble_eq_true rfl) (f_M_dusk_e_ok hD hf (fun _ _ e => by cases e; exact ⟨rfl, rfl⟩))
