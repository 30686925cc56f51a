theorem d190_0 : decode (xcode 190) 0 = .ok (.iconst 0, 1) := by decide +kernel
theorem d190_1 : decode (xcode 190) 1 = .ok (.istore_n 3, 1) := by decide +kernel
theorem d190_2 : decode (xcode 190) 2 = .ok (.iconst 0, 1) := by decide +kernel
theorem d190_3 : decode (xcode 190) 3 = .ok (.istore 4, 2) := by decide +kernel
theorem d190_5 : decode (xcode 190) 5 = .ok (.iload 4, 2) := by decide +kernel
theorem d190_7 : decode (xcode 190) 7 = .ok (.aload_n 0, 1) := by decide +kernel
theorem d190_8 : decode (xcode 190) 8 = .ok (.getfield 39, 3) := by decide +kernel
theorem d190_11 : decode (xcode 190) 11 = .ok (.iconst 3, 1) := by decide +kernel
theorem d190_12 : decode (xcode 190) 12 = .ok (.iaload, 1) := by decide +kernel
theorem d190_13 : decode (xcode 190) 13 = .ok (.if_icmp .ge 34, 3) := by decide +kernel
theorem d190_16 : decode (xcode 190) 16 = .ok (.iload_n 3, 1) := by decide +kernel
theorem d190_17 : decode (xcode 190) 17 = .ok (.iload_n 1, 1) := by decide +kernel
theorem d190_18 : decode (xcode 190) 18 = .ok (.iload 4, 2) := by decide +kernel
theorem d190_20 : decode (xcode 190) 20 = .ok (.invokestatic 301, 3) := by decide +kernel
theorem d190_23 : decode (xcode 190) 23 = .ok (.ifCond .eq 15, 3) := by decide +kernel
theorem d190_26 : decode (xcode 190) 26 = .ok (.aload_n 0, 1) := by decide +kernel
theorem d190_27 : decode (xcode 190) 27 = .ok (.getfield 39, 3) := by decide +kernel
theorem d190_30 : decode (xcode 190) 30 = .ok (.iload_n 2, 1) := by decide +kernel
theorem d190_31 : decode (xcode 190) 31 = .ok (.iload 4, 2) := by decide +kernel
theorem d190_33 : decode (xcode 190) 33 = .ok (.iadd, 1) := by decide +kernel
theorem d190_34 : decode (xcode 190) 34 = .ok (.iaload, 1) := by decide +kernel
theorem d190_35 : decode (xcode 190) 35 = .ok (.goto 4, 3) := by decide +kernel
theorem d190_38 : decode (xcode 190) 38 = .ok (.iconst 0, 1) := by decide +kernel
theorem d190_39 : decode (xcode 190) 39 = .ok (.iadd, 1) := by decide +kernel
theorem d190_40 : decode (xcode 190) 40 = .ok (.istore_n 3, 1) := by decide +kernel
theorem d190_41 : decode (xcode 190) 41 = .ok (.iinc 4 1, 3) := by decide +kernel
theorem d190_44 : decode (xcode 190) 44 = .ok (.goto (-39), 3) := by decide +kernel
theorem d190_47 : decode (xcode 190) 47 = .ok (.iload_n 3, 1) := by decide +kernel
theorem d190_48 : decode (xcode 190) 48 = .ok (.ireturn, 1) := by decide +kernel
theorem d140_0 : decode (xcode 140) 0 = .ok (.iload_n 0, 1) := by decide +kernel
theorem d140_1 : decode (xcode 140) 1 = .ok (.iload_n 1, 1) := by decide +kernel
theorem d140_2 : decode (xcode 140) 2 = .ok (.ishr, 1) := by decide +kernel
theorem d140_3 : decode (xcode 140) 3 = .ok (.iconst 1, 1) := by decide +kernel
theorem d140_4 : decode (xcode 140) 4 = .ok (.iand, 1) := by decide +kernel
theorem d140_5 : decode (xcode 140) 5 = .ok (.iconst 1, 1) := by decide +kernel
theorem d140_6 : decode (xcode 140) 6 = .ok (.if_icmp .ne 7, 3) := by decide +kernel
theorem d140_9 : decode (xcode 140) 9 = .ok (.iconst 1, 1) := by decide +kernel
theorem d140_10 : decode (xcode 140) 10 = .ok (.goto 4, 3) := by decide +kernel
theorem d140_13 : decode (xcode 140) 13 = .ok (.iconst 0, 1) := by decide +kernel
theorem d140_14 : decode (xcode 140) 14 = .ok (.ireturn, 1) := by decide +kernel
noncomputable def f_M_isOf_e (v0 : Int32) (v1 : Int32) (h : xH) : Option Int32 :=
  if ((v0 >>> (v1 &&& 31)) &&& (1 : Int32)) = (1 : Int32) then (
  some ((1 : Int32))) else (
  some ((0 : Int32)))
set_option maxHeartbeats 4000000 in
set_option maxRecDepth 100000 in
theorem f_M_isOf_e_ok {g : xG} {l : Launch} {d : Nat} {v0 : Int32} {v1 : Int32} {h : xH} {o : Int32} {R : Option xV} (hD : 0 ≤ d) (hf : f_M_isOf_e v0 v1 h = some o) (K0 : ∀ (a : Int32), o = a → R = some (xi a)) : xEv g l d 140 0 [(0, xi v0), (1, xi v1)] [] h R h := by
  unfold f_M_isOf_e at hf
  refine xs_iload_n d140_0 rfl ?_
  refine xs_iload_n d140_1 rfl ?_
  refine xs_ishr d140_2 ?_
  refine xs_iconst (v := 1) d140_3 (by decide) ?_
  refine xs_iand d140_4 ?_
  refine xs_iconst (v := 1) d140_5 (by decide) ?_
  rcases lk_if hf with ⟨hc1, hf⟩ | ⟨hc1, hf⟩
  · refine xs_icmp_ne (tgt := 13) d140_6 (by decide) (fun _ => ?_) (fun hn => absurd hc1 hn)
    refine xs_iconst (v := 1) d140_9 (by decide) ?_
    refine xs_goto (tgt := 14) d140_10 (by decide) ?_
    obtain eR := K0 _ (Option.some.inj hf).symm
    subst eR
    exact xe_zret d140_14 (Or.inr rfl) rt140
  · refine xs_icmp_ne (tgt := 13) d140_6 (by decide) (fun hp => absurd hp hc1) (fun _ => ?_)
    refine xs_iconst (v := 0) d140_13 (by decide) ?_
    obtain eR := K0 _ (Option.some.inj hf).symm
    subst eR
    exact xe_zret d140_14 (Or.inl rfl) rt140
noncomputable def f_M_isOf (v0 : Int32) (v1 : Int32) (h : xH) : Option Int32 := f_M_isOf_e v0 v1 h
theorem f_M_isOf_ok {g : xG} {l : Launch} {d : Nat} {v0 : Int32} {v1 : Int32} {h : xH} {r : Int32} (hD : 0 ≤ d) (hf : f_M_isOf v0 v1 h = some r) : xC g l d 140 [xi v0, xi v1] h (some (xi r)) h :=
  xC_of (by decide) (Nat.le_of_ble_eq_true rfl) (f_M_isOf_e_ok hD hf (fun _ e => by rw [e]))
noncomputable def f_M_sumOf_b39 (v1 : Int32) (v2 : Int32) (v4 : Int32) (t0 : Int32) (t1 : Int32) (h : xH) : Option ((Int32 × Int32) ⊕ Int32) :=
  xlet (t1 + t0) fun v3_5 =>
  xlet (v4 + (1 : Int32)) fun v4_6 =>
  some (Sum.inl (v3_5, v4_6))
set_option maxHeartbeats 4000000 in
set_option maxRecDepth 100000 in
theorem f_M_sumOf_b39_ok {g : xG} {l : Launch} {d : Nat} {v1 : Int32} {v2 : Int32} {v4 : Int32} {t0 : Int32} {t1 : Int32} {h : xH} {o : ((Int32 × Int32) ⊕ Int32)} {R : Option xV} (hD : 1 ≤ d) (hf : f_M_sumOf_b39 v1 v2 v4 t0 t1 h = some o) (K1 : ∀ (w3 : Int32) (w4 : Int32), o = Sum.inl (w3, w4) → xEv g l d 190 5 [(0, xr 12 (some 0)), (1, xi v1), (2, xi v2), (3, xi w3), (4, xi w4)] [] h R h) (K0 : ∀ (a : Int32), o = Sum.inr (a) → R = some (xi a)) : xEv g l d 190 39 [(0, xr 12 (some 0)), (1, xi v1), (2, xi v2), (4, xi v4)] [xi t0, xi t1] h R h := by
  unfold f_M_sumOf_b39 at hf
  refine xs_iadd d190_39 ?_
  obtain ⟨v3_5, ev3_5, hf⟩ := lk_let hf
  refine xe_istore_n (v := v3_5) (ls2 := [(0, xr 12 (some 0)), (1, xi v1), (2, xi v2), (3, xi v3_5), (4, xi v4)]) d190_40 mx190 (by decide) ev3_5 rfl ?_
  obtain ⟨v4_6, ev4_6, hf⟩ := lk_let hf
  refine xe_iinc (v := v4_6) (b := 1) (ls2 := [(0, xr 12 (some 0)), (1, xi v1), (2, xi v2), (3, xi v3_5), (4, xi v4_6)]) d190_41 mx190 (by decide) rfl (by decide) ev4_6 rfl ?_
  refine xs_goto (tgt := 5) d190_44 (by decide) ?_
  exact K1 _ _ (Option.some.inj hf).symm
noncomputable def f_M_sumOf_s5 (v1 : Int32) (v2 : Int32) (v3 : Int32) (v4 : Int32) (h : xH) : Option ((Int32 × Int32) ⊕ Int32) :=
  if (h.2.2.2.1 56 0 ((3 : Int32)).toNatClampNeg) ≤ v4 then (
  some (Sum.inr (v3))) else (
  (f_M_isOf v1 v4 h).bind fun r2 =>
  if r2 = (0 : Int32) then (
  f_M_sumOf_b39 v1 v2 v4 (0 : Int32) v3 h) else (
  if xib (v2 + v4) 101 then (
  f_M_sumOf_b39 v1 v2 v4 (h.2.2.2.1 56 0 (v2 + v4).toNatClampNeg) v3 h) else none))
set_option maxHeartbeats 4000000 in
set_option maxRecDepth 100000 in
theorem f_M_sumOf_s5_ok {g : xG} {l : Launch} {d : Nat} {v1 : Int32} {v2 : Int32} {v3 : Int32} {v4 : Int32} {h : xH} {o : ((Int32 × Int32) ⊕ Int32)} {R : Option xV} (hD : 1 ≤ d) (hf : f_M_sumOf_s5 v1 v2 v3 v4 h = some o) (K1 : ∀ (w3 : Int32) (w4 : Int32), o = Sum.inl (w3, w4) → xEv g l d 190 5 [(0, xr 12 (some 0)), (1, xi v1), (2, xi v2), (3, xi w3), (4, xi w4)] [] h R h) (K0 : ∀ (a : Int32), o = Sum.inr (a) → R = some (xi a)) : xEv g l d 190 5 [(0, xr 12 (some 0)), (1, xi v1), (2, xi v2), (3, xi v3), (4, xi v4)] [] h R h := by
  unfold f_M_sumOf_s5 at hf
  refine xs_iload d190_5 rfl ?_
  refine xs_aload_n d190_7 rfl ?_
  refine xe_getc (j := 0) d190_8 ky190 fl181 fk12_20 rfl ?_
  refine xs_iconst (v := 3) d190_11 (by decide) ?_
  refine xe_iald d190_12 (by decide) ak56 (show xib (3 : Int32) 101 by decide) ?_
  rcases lk_if hf with ⟨hc1, hf⟩ | ⟨hc1, hf⟩
  · refine xs_icmp_ge (tgt := 47) d190_13 (by decide) (fun _ => ?_) (fun hn => absurd hc1 hn)
    refine xs_iload_n d190_47 rfl ?_
    obtain eR := K0 _ (Option.some.inj hf).symm
    subst eR
    exact xs_iret d190_48 rt190
  · refine xs_icmp_ge (tgt := 47) d190_13 (by decide) (fun hp => absurd hp hc1) (fun _ => ?_)
    refine xs_iload_n d190_16 rfl ?_
    refine xs_iload_n d190_17 rfl ?_
    refine xs_iload d190_18 rfl ?_
    obtain ⟨r2, hc3, hf⟩ := lk_b hf
    refine xe_calls1 (as := [xi v1, xi v4]) (st := [xi v3]) (h2 := h) (d2 := d - 1) d190_20 ky190 ml233 st140 rfl na140 (Nat.le_of_ble_eq_true rfl) (by omega) (f_M_isOf_ok (by omega) hc3) ?_
    rcases lk_if hf with ⟨hc4, hf⟩ | ⟨hc4, hf⟩
    · refine xs_if_eq (tgt := 38) d190_23 (by decide) (fun _ => ?_) (fun hn => absurd hc4 hn)
      refine xs_iconst (v := 0) d190_38 (by decide) ?_
      refine xs_pick [0, 1, 2, 4] rfl ?_
      exact f_M_sumOf_b39_ok hD hf K1 K0
    · refine xs_if_eq (tgt := 38) d190_23 (by decide) (fun hp => absurd hp hc4) (fun _ => ?_)
      refine xs_aload_n d190_26 rfl ?_
      refine xe_getc (j := 0) d190_27 ky190 fl181 fk12_20 rfl ?_
      refine xs_iload_n d190_30 rfl ?_
      refine xs_iload d190_31 rfl ?_
      refine xs_iadd d190_33 ?_
      obtain ⟨hin7, hf⟩ := lk_g hf
      refine xe_iald d190_34 (by decide) ak56 hin7 ?_
      refine xs_goto (tgt := 39) d190_35 (by decide) ?_
      refine xs_pick [0, 1, 2, 4] rfl ?_
      exact f_M_sumOf_b39_ok hD hf K1 K0
noncomputable def f_M_sumOf_l5 (v1 : Int32) (v2 : Int32) (v3 : Int32) (v4 : Int32) (h : xH) : Option Int32 :=
  whl (fun s => f_M_sumOf_s5 v1 v2 s.1 s.2 h) (v3, v4)
theorem f_M_sumOf_l5_ok {g : xG} {l : Launch} {d : Nat} {v1 : Int32} {v2 : Int32} {v3 : Int32} {v4 : Int32} {h : xH} {o : Int32} {R : Option xV} (hD : 1 ≤ d) (hf : f_M_sumOf_l5 v1 v2 v3 v4 h = some o) (K0 : ∀ (a : Int32), o = a → R = some (xi a)) : xEv g l d 190 5 [(0, xr 12 (some 0)), (1, xi v1), (2, xi v2), (3, xi v3), (4, xi v4)] [] h R h := by
  obtain ⟨n, hn⟩ := whl_iff.mp hf
  clear hf
  induction n generalizing v3 v4 with
  | zero => cases hn
  | succ n ih =>
    obtain ⟨o2, hs, hn⟩ := lk_b (show (f_M_sumOf_s5 v1 v2 v3 v4 h).bind (fun o => Sum.elim (itn _ n) some o) = some o from hn)
    exact f_M_sumOf_s5_ok hD hs (fun u0 u1 e => ih (by rw [e] at hn; exact hn)) (fun u0 e => K0 u0 (by rw [e] at hn; exact (Option.some.inj hn).symm))
noncomputable def f_M_sumOf_e (v1 : Int32) (v2 : Int32) (h : xH) : Option Int32 :=
  f_M_sumOf_l5 v1 v2 (0 : Int32) (0 : Int32) h
set_option maxHeartbeats 4000000 in
set_option maxRecDepth 100000 in
theorem f_M_sumOf_e_ok {g : xG} {l : Launch} {d : Nat} {v1 : Int32} {v2 : Int32} {h : xH} {o : Int32} {R : Option xV} (hD : 1 ≤ d) (hf : f_M_sumOf_e v1 v2 h = some o) (K0 : ∀ (a : Int32), o = a → R = some (xi a)) : xEv g l d 190 0 [(0, xr 12 (some 0)), (1, xi v1), (2, xi v2)] [] h R h := by
  unfold f_M_sumOf_e at hf
  refine xs_iconst (v := 0) d190_0 (by decide) ?_
  refine xe_istore_n (v := (0 : Int32)) (ls2 := [(0, xr 12 (some 0)), (1, xi v1), (2, xi v2), (3, xi (0 : Int32))]) d190_1 mx190 (by decide) rfl rfl ?_
  refine xs_iconst (v := 0) d190_2 (by decide) ?_
  refine xe_istore (v := (0 : Int32)) (ls2 := [(0, xr 12 (some 0)), (1, xi v1), (2, xi v2), (3, xi (0 : Int32)), (4, xi (0 : Int32))]) d190_3 mx190 (by decide) rfl rfl ?_
  exact f_M_sumOf_l5_ok hD hf K0
noncomputable def f_M_sumOf (v1 : Int32) (v2 : Int32) (h : xH) : Option Int32 := f_M_sumOf_e v1 v2 h
theorem f_M_sumOf_ok {g : xG} {l : Launch} {d : Nat} {v1 : Int32} {v2 : Int32} {h : xH} {r : Int32} (hD : 1 ≤ d) (hf : f_M_sumOf v1 v2 h = some r) : xC g l d 190 [xr 12 (some 0), xi v1, xi v2] h (some (xi r)) h :=
  xC_of (by decide) (Nat.le_of_ble_eq_true rfl) (f_M_sumOf_e_ok hD hf (fun _ e => by rw [e]))
theorem d186_0 : decode (xcode 186) 0 = .ok (.aload_n 0, 1) := by decide +kernel
theorem d186_1 : decode (xcode 186) 1 = .ok (.iload_n 1, 1) := by decide +kernel
theorem d186_2 : decode (xcode 186) 2 = .ok (.invokevirtual 290, 3) := by decide +kernel
theorem d186_5 : decode (xcode 186) 5 = .ok (.ifCond .eq 19, 3) := by decide +kernel
theorem d186_8 : decode (xcode 186) 8 = .ok (.aload_n 0, 1) := by decide +kernel
theorem d186_9 : decode (xcode 186) 9 = .ok (.getfield 39, 3) := by decide +kernel
theorem d186_12 : decode (xcode 186) 12 = .ok (.bipush 12, 2) := by decide +kernel
theorem d186_14 : decode (xcode 186) 14 = .ok (.iload_n 1, 1) := by decide +kernel
theorem d186_15 : decode (xcode 186) 15 = .ok (.iadd, 1) := by decide +kernel
theorem d186_16 : decode (xcode 186) 16 = .ok (.iaload, 1) := by decide +kernel
theorem d186_17 : decode (xcode 186) 17 = .ok (.ifCond .ne 7, 3) := by decide +kernel
theorem d186_20 : decode (xcode 186) 20 = .ok (.iconst 1, 1) := by decide +kernel
theorem d186_21 : decode (xcode 186) 21 = .ok (.goto 4, 3) := by decide +kernel
theorem d186_24 : decode (xcode 186) 24 = .ok (.iconst 0, 1) := by decide +kernel
theorem d186_25 : decode (xcode 186) 25 = .ok (.ireturn, 1) := by decide +kernel
theorem d185_0 : decode (xcode 185) 0 = .ok (.iload_n 1, 1) := by decide +kernel
theorem d185_1 : decode (xcode 185) 1 = .ok (.ifCond .lt 17, 3) := by decide +kernel
theorem d185_4 : decode (xcode 185) 4 = .ok (.iload_n 1, 1) := by decide +kernel
theorem d185_5 : decode (xcode 185) 5 = .ok (.aload_n 0, 1) := by decide +kernel
theorem d185_6 : decode (xcode 185) 6 = .ok (.getfield 39, 3) := by decide +kernel
theorem d185_9 : decode (xcode 185) 9 = .ok (.iconst 3, 1) := by decide +kernel
theorem d185_10 : decode (xcode 185) 10 = .ok (.iaload, 1) := by decide +kernel
theorem d185_11 : decode (xcode 185) 11 = .ok (.if_icmp .ge 7, 3) := by decide +kernel
theorem d185_14 : decode (xcode 185) 14 = .ok (.iconst 1, 1) := by decide +kernel
theorem d185_15 : decode (xcode 185) 15 = .ok (.goto 4, 3) := by decide +kernel
theorem d185_18 : decode (xcode 185) 18 = .ok (.iconst 0, 1) := by decide +kernel
theorem d185_19 : decode (xcode 185) 19 = .ok (.ireturn, 1) := by decide +kernel
noncomputable def f_M_isSorrow_e (v1 : Int32) (h : xH) : Option Int32 :=
  if v1 < (0 : Int32) then (
  some ((0 : Int32))) else (
  if (h.2.2.2.1 56 0 ((3 : Int32)).toNatClampNeg) ≤ v1 then (
  some ((0 : Int32))) else (
  some ((1 : Int32))))
set_option maxHeartbeats 4000000 in
set_option maxRecDepth 100000 in
theorem f_M_isSorrow_e_ok {g : xG} {l : Launch} {d : Nat} {v1 : Int32} {h : xH} {o : Int32} {R : Option xV} (hD : 0 ≤ d) (hf : f_M_isSorrow_e v1 h = some o) (K0 : ∀ (a : Int32), o = a → R = some (xi a)) : xEv g l d 185 0 [(0, xr 12 (some 0)), (1, xi v1)] [] h R h := by
  unfold f_M_isSorrow_e at hf
  refine xs_iload_n d185_0 rfl ?_
  rcases lk_if hf with ⟨hc1, hf⟩ | ⟨hc1, hf⟩
  · refine xs_if_lt (tgt := 18) d185_1 (by decide) (fun _ => ?_) (fun hn => absurd hc1 hn)
    refine xs_iconst (v := 0) d185_18 (by decide) ?_
    obtain eR := K0 _ (Option.some.inj hf).symm
    subst eR
    exact xe_zret d185_19 (Or.inl rfl) rt185
  · refine xs_if_lt (tgt := 18) d185_1 (by decide) (fun hp => absurd hp hc1) (fun _ => ?_)
    refine xs_iload_n d185_4 rfl ?_
    refine xs_aload_n d185_5 rfl ?_
    refine xe_getc (j := 0) d185_6 ky185 fl181 fk12_20 rfl ?_
    refine xs_iconst (v := 3) d185_9 (by decide) ?_
    refine xe_iald d185_10 (by decide) ak56 (show xib (3 : Int32) 101 by decide) ?_
    rcases lk_if hf with ⟨hc2, hf⟩ | ⟨hc2, hf⟩
    · refine xs_icmp_ge (tgt := 18) d185_11 (by decide) (fun _ => ?_) (fun hn => absurd hc2 hn)
      refine xs_iconst (v := 0) d185_18 (by decide) ?_
      obtain eR := K0 _ (Option.some.inj hf).symm
      subst eR
      exact xe_zret d185_19 (Or.inl rfl) rt185
    · refine xs_icmp_ge (tgt := 18) d185_11 (by decide) (fun hp => absurd hp hc2) (fun _ => ?_)
      refine xs_iconst (v := 1) d185_14 (by decide) ?_
      refine xs_goto (tgt := 19) d185_15 (by decide) ?_
      obtain eR := K0 _ (Option.some.inj hf).symm
      subst eR
      exact xe_zret d185_19 (Or.inr rfl) rt185
noncomputable def f_M_isSorrow (v1 : Int32) (h : xH) : Option Int32 := f_M_isSorrow_e v1 h
theorem f_M_isSorrow_ok {g : xG} {l : Launch} {d : Nat} {v1 : Int32} {h : xH} {r : Int32} (hD : 0 ≤ d) (hf : f_M_isSorrow v1 h = some r) : xC g l d 185 [xr 12 (some 0), xi v1] h (some (xi r)) h :=
  xC_of (by decide) (Nat.le_of_ble_eq_true rfl) (f_M_isSorrow_e_ok hD hf (fun _ e => by rw [e]))
noncomputable def f_M_isInside_i_e (v1 : Int32) (h : xH) : Option Int32 :=
  (f_M_isSorrow v1 h).bind fun r1 =>
  if r1 = (0 : Int32) then (
  some ((0 : Int32))) else (
  if xib ((12 : Int32) + v1) 101 then (
  if (h.2.2.2.1 56 0 ((12 : Int32) + v1).toNatClampNeg) = (0 : Int32) then (
  some ((1 : Int32))) else (
  some ((0 : Int32)))) else none)
set_option maxHeartbeats 4000000 in
set_option maxRecDepth 100000 in
theorem f_M_isInside_i_e_ok {g : xG} {l : Launch} {d : Nat} {v1 : Int32} {h : xH} {o : Int32} {R : Option xV} (hD : 1 ≤ d) (hf : f_M_isInside_i_e v1 h = some o) (K0 : ∀ (a : Int32), o = a → R = some (xi a)) : xEv g l d 186 0 [(0, xr 12 (some 0)), (1, xi v1)] [] h R h := by
  unfold f_M_isInside_i_e at hf
  refine xs_aload_n d186_0 rfl ?_
  refine xs_iload_n d186_1 rfl ?_
  obtain ⟨r1, hc2, hf⟩ := lk_b hf
  refine xe_callv1 (as := [xi v1]) (st := []) (h2 := h) (d2 := d - 1) d186_2 ky186 ml221 st185 (by decide) cn185 rfl na185 (Nat.le_of_ble_eq_true rfl) (by omega) (f_M_isSorrow_ok (by omega) hc2) ?_
  rcases lk_if hf with ⟨hc3, hf⟩ | ⟨hc3, hf⟩
  · refine xs_if_eq (tgt := 24) d186_5 (by decide) (fun _ => ?_) (fun hn => absurd hc3 hn)
    refine xs_iconst (v := 0) d186_24 (by decide) ?_
    obtain eR := K0 _ (Option.some.inj hf).symm
    subst eR
    exact xe_zret d186_25 (Or.inl rfl) rt186
  · refine xs_if_eq (tgt := 24) d186_5 (by decide) (fun hp => absurd hp hc3) (fun _ => ?_)
    refine xs_aload_n d186_8 rfl ?_
    refine xe_getc (j := 0) d186_9 ky186 fl181 fk12_20 rfl ?_
    refine xs_bipush (v := 12) d186_12 (by decide) ?_
    refine xs_iload_n d186_14 rfl ?_
    refine xs_iadd d186_15 ?_
    obtain ⟨hin4, hf⟩ := lk_g hf
    refine xe_iald d186_16 (by decide) ak56 hin4 ?_
    rcases lk_if hf with ⟨hc5, hf⟩ | ⟨hc5, hf⟩
    · refine xs_if_ne (tgt := 24) d186_17 (by decide) (fun _ => ?_) (fun hn => absurd hc5 hn)
      refine xs_iconst (v := 1) d186_20 (by decide) ?_
      refine xs_goto (tgt := 25) d186_21 (by decide) ?_
      obtain eR := K0 _ (Option.some.inj hf).symm
      subst eR
      exact xe_zret d186_25 (Or.inr rfl) rt186
    · refine xs_if_ne (tgt := 24) d186_17 (by decide) (fun hp => absurd hp hc5) (fun _ => ?_)
      refine xs_iconst (v := 0) d186_24 (by decide) ?_
      obtain eR := K0 _ (Option.some.inj hf).symm
      subst eR
      exact xe_zret d186_25 (Or.inl rfl) rt186
noncomputable def f_M_isInside_i (v1 : Int32) (h : xH) : Option Int32 := f_M_isInside_i_e v1 h
theorem f_M_isInside_i_ok {g : xG} {l : Launch} {d : Nat} {v1 : Int32} {h : xH} {r : Int32} (hD : 1 ≤ d) (hf : f_M_isInside_i v1 h = some r) : xC g l d 186 [xr 12 (some 0), xi v1] h (some (xi r)) h :=
  xC_of (by decide) (Nat.le_of_ble_eq_true rfl) (f_M_isInside_i_e_ok hD hf (fun _ e => by rw [e]))
theorem d187_0 : decode (xcode 187) 0 = .ok (.iconst 0, 1) := by decide +kernel
theorem d187_1 : decode (xcode 187) 1 = .ok (.istore_n 1, 1) := by decide +kernel
theorem d187_2 : decode (xcode 187) 2 = .ok (.iconst 0, 1) := by decide +kernel
theorem d187_3 : decode (xcode 187) 3 = .ok (.istore_n 2, 1) := by decide +kernel
theorem d187_4 : decode (xcode 187) 4 = .ok (.iload_n 2, 1) := by decide +kernel
theorem d187_5 : decode (xcode 187) 5 = .ok (.aload_n 0, 1) := by decide +kernel
theorem d187_6 : decode (xcode 187) 6 = .ok (.getfield 39, 3) := by decide +kernel
theorem d187_9 : decode (xcode 187) 9 = .ok (.iconst 3, 1) := by decide +kernel
theorem d187_10 : decode (xcode 187) 10 = .ok (.iaload, 1) := by decide +kernel
theorem d187_11 : decode (xcode 187) 11 = .ok (.if_icmp .ge 27, 3) := by decide +kernel
theorem d187_14 : decode (xcode 187) 14 = .ok (.iload_n 1, 1) := by decide +kernel
theorem d187_15 : decode (xcode 187) 15 = .ok (.aload_n 0, 1) := by decide +kernel
theorem d187_16 : decode (xcode 187) 16 = .ok (.iload_n 2, 1) := by decide +kernel
theorem d187_17 : decode (xcode 187) 17 = .ok (.invokevirtual 293, 3) := by decide +kernel
theorem d187_20 : decode (xcode 187) 20 = .ok (.ifCond .eq 9, 3) := by decide +kernel
theorem d187_23 : decode (xcode 187) 23 = .ok (.iconst 1, 1) := by decide +kernel
theorem d187_24 : decode (xcode 187) 24 = .ok (.iload_n 2, 1) := by decide +kernel
theorem d187_25 : decode (xcode 187) 25 = .ok (.ishl, 1) := by decide +kernel
theorem d187_26 : decode (xcode 187) 26 = .ok (.goto 4, 3) := by decide +kernel
theorem d187_29 : decode (xcode 187) 29 = .ok (.iconst 0, 1) := by decide +kernel
theorem d187_30 : decode (xcode 187) 30 = .ok (.ior, 1) := by decide +kernel
theorem d187_31 : decode (xcode 187) 31 = .ok (.istore_n 1, 1) := by decide +kernel
theorem d187_32 : decode (xcode 187) 32 = .ok (.iinc 2 1, 3) := by decide +kernel
theorem d187_35 : decode (xcode 187) 35 = .ok (.goto (-31), 3) := by decide +kernel
theorem d187_38 : decode (xcode 187) 38 = .ok (.iload_n 1, 1) := by decide +kernel
theorem d187_39 : decode (xcode 187) 39 = .ok (.ireturn, 1) := by decide +kernel
noncomputable def f_M_inside_b30 (v2 : Int32) (t0 : Int32) (t1 : Int32) (h : xH) : Option ((Int32 × Int32) ⊕ Int32) :=
  xlet (t1 ||| t0) fun v1_5 =>
  xlet (v2 + (1 : Int32)) fun v2_6 =>
  some (Sum.inl (v1_5, v2_6))
set_option maxHeartbeats 4000000 in
set_option maxRecDepth 100000 in
theorem f_M_inside_b30_ok {g : xG} {l : Launch} {d : Nat} {v2 : Int32} {t0 : Int32} {t1 : Int32} {h : xH} {o : ((Int32 × Int32) ⊕ Int32)} {R : Option xV} (hD : 2 ≤ d) (hf : f_M_inside_b30 v2 t0 t1 h = some o) (K1 : ∀ (w1 : Int32) (w2 : Int32), o = Sum.inl (w1, w2) → xEv g l d 187 4 [(0, xr 12 (some 0)), (1, xi w1), (2, xi w2)] [] h R h) (K0 : ∀ (a : Int32), o = Sum.inr (a) → R = some (xi a)) : xEv g l d 187 30 [(0, xr 12 (some 0)), (2, xi v2)] [xi t0, xi t1] h R h := by
  unfold f_M_inside_b30 at hf
  refine xs_ior d187_30 ?_
  obtain ⟨v1_5, ev1_5, hf⟩ := lk_let hf
  refine xe_istore_n (v := v1_5) (ls2 := [(0, xr 12 (some 0)), (1, xi v1_5), (2, xi v2)]) d187_31 mx187 (by decide) ev1_5 rfl ?_
  obtain ⟨v2_6, ev2_6, hf⟩ := lk_let hf
  refine xe_iinc (v := v2_6) (b := 1) (ls2 := [(0, xr 12 (some 0)), (1, xi v1_5), (2, xi v2_6)]) d187_32 mx187 (by decide) rfl (by decide) ev2_6 rfl ?_
  refine xs_goto (tgt := 4) d187_35 (by decide) ?_
  exact K1 _ _ (Option.some.inj hf).symm
noncomputable def f_M_inside_s4 (v1 : Int32) (v2 : Int32) (h : xH) : Option ((Int32 × Int32) ⊕ Int32) :=
  if (h.2.2.2.1 56 0 ((3 : Int32)).toNatClampNeg) ≤ v2 then (
  some (Sum.inr (v1))) else (
  (f_M_isInside_i v2 h).bind fun r2 =>
  if r2 = (0 : Int32) then (
  f_M_inside_b30 v2 (0 : Int32) v1 h) else (
  f_M_inside_b30 v2 ((1 : Int32) <<< (v2 &&& 31)) v1 h))
set_option maxHeartbeats 4000000 in
set_option maxRecDepth 100000 in
theorem f_M_inside_s4_ok {g : xG} {l : Launch} {d : Nat} {v1 : Int32} {v2 : Int32} {h : xH} {o : ((Int32 × Int32) ⊕ Int32)} {R : Option xV} (hD : 2 ≤ d) (hf : f_M_inside_s4 v1 v2 h = some o) (K1 : ∀ (w1 : Int32) (w2 : Int32), o = Sum.inl (w1, w2) → xEv g l d 187 4 [(0, xr 12 (some 0)), (1, xi w1), (2, xi w2)] [] h R h) (K0 : ∀ (a : Int32), o = Sum.inr (a) → R = some (xi a)) : xEv g l d 187 4 [(0, xr 12 (some 0)), (1, xi v1), (2, xi v2)] [] h R h := by
  unfold f_M_inside_s4 at hf
  refine xs_iload_n d187_4 rfl ?_
  refine xs_aload_n d187_5 rfl ?_
  refine xe_getc (j := 0) d187_6 ky187 fl181 fk12_20 rfl ?_
  refine xs_iconst (v := 3) d187_9 (by decide) ?_
  refine xe_iald d187_10 (by decide) ak56 (show xib (3 : Int32) 101 by decide) ?_
  rcases lk_if hf with ⟨hc1, hf⟩ | ⟨hc1, hf⟩
  · refine xs_icmp_ge (tgt := 38) d187_11 (by decide) (fun _ => ?_) (fun hn => absurd hc1 hn)
    refine xs_iload_n d187_38 rfl ?_
    obtain eR := K0 _ (Option.some.inj hf).symm
    subst eR
    exact xs_iret d187_39 rt187
  · refine xs_icmp_ge (tgt := 38) d187_11 (by decide) (fun hp => absurd hp hc1) (fun _ => ?_)
    refine xs_iload_n d187_14 rfl ?_
    refine xs_aload_n d187_15 rfl ?_
    refine xs_iload_n d187_16 rfl ?_
    obtain ⟨r2, hc3, hf⟩ := lk_b hf
    refine xe_callv1 (as := [xi v2]) (st := [xi v1]) (h2 := h) (d2 := d - 1) d187_17 ky187 ml230 st186 (by decide) cn186 rfl na186 (Nat.le_of_ble_eq_true rfl) (by omega) (f_M_isInside_i_ok (by omega) hc3) ?_
    rcases lk_if hf with ⟨hc4, hf⟩ | ⟨hc4, hf⟩
    · refine xs_if_eq (tgt := 29) d187_20 (by decide) (fun _ => ?_) (fun hn => absurd hc4 hn)
      refine xs_iconst (v := 0) d187_29 (by decide) ?_
      refine xs_pick [0, 2] rfl ?_
      exact f_M_inside_b30_ok hD hf K1 K0
    · refine xs_if_eq (tgt := 29) d187_20 (by decide) (fun hp => absurd hp hc4) (fun _ => ?_)
      refine xs_iconst (v := 1) d187_23 (by decide) ?_
      refine xs_iload_n d187_24 rfl ?_
      refine xs_ishl d187_25 ?_
      refine xs_goto (tgt := 30) d187_26 (by decide) ?_
      refine xs_pick [0, 2] rfl ?_
      exact f_M_inside_b30_ok hD hf K1 K0
noncomputable def f_M_inside_l4 (v1 : Int32) (v2 : Int32) (h : xH) : Option Int32 :=
  whl (fun s => f_M_inside_s4 s.1 s.2 h) (v1, v2)
theorem f_M_inside_l4_ok {g : xG} {l : Launch} {d : Nat} {v1 : Int32} {v2 : Int32} {h : xH} {o : Int32} {R : Option xV} (hD : 2 ≤ d) (hf : f_M_inside_l4 v1 v2 h = some o) (K0 : ∀ (a : Int32), o = a → R = some (xi a)) : xEv g l d 187 4 [(0, xr 12 (some 0)), (1, xi v1), (2, xi v2)] [] h R h := by
  obtain ⟨n, hn⟩ := whl_iff.mp hf
  clear hf
  induction n generalizing v1 v2 with
  | zero => cases hn
  | succ n ih =>
    obtain ⟨o2, hs, hn⟩ := lk_b (show (f_M_inside_s4 v1 v2 h).bind (fun o => Sum.elim (itn _ n) some o) = some o from hn)
    exact f_M_inside_s4_ok hD hs (fun u0 u1 e => ih (by rw [e] at hn; exact hn)) (fun u0 e => K0 u0 (by rw [e] at hn; exact (Option.some.inj hn).symm))
noncomputable def f_M_inside_e (h : xH) : Option Int32 :=
  f_M_inside_l4 (0 : Int32) (0 : Int32) h
set_option maxHeartbeats 4000000 in
set_option maxRecDepth 100000 in
theorem f_M_inside_e_ok {g : xG} {l : Launch} {d : Nat} {h : xH} {o : Int32} {R : Option xV} (hD : 2 ≤ d) (hf : f_M_inside_e h = some o) (K0 : ∀ (a : Int32), o = a → R = some (xi a)) : xEv g l d 187 0 [(0, xr 12 (some 0))] [] h R h := by
  unfold f_M_inside_e at hf
  refine xs_iconst (v := 0) d187_0 (by decide) ?_
  refine xe_istore_n (v := (0 : Int32)) (ls2 := [(0, xr 12 (some 0)), (1, xi (0 : Int32))]) d187_1 mx187 (by decide) rfl rfl ?_
  refine xs_iconst (v := 0) d187_2 (by decide) ?_
  refine xe_istore_n (v := (0 : Int32)) (ls2 := [(0, xr 12 (some 0)), (1, xi (0 : Int32)), (2, xi (0 : Int32))]) d187_3 mx187 (by decide) rfl rfl ?_
  exact f_M_inside_l4_ok hD hf K0
noncomputable def f_M_inside (h : xH) : Option Int32 := f_M_inside_e h
theorem f_M_inside_ok {g : xG} {l : Launch} {d : Nat} {h : xH} {r : Int32} (hD : 2 ≤ d) (hf : f_M_inside h = some r) : xC g l d 187 [xr 12 (some 0)] h (some (xi r)) h :=
  xC_of (by decide) (Nat.le_of_ble_eq_true rfl) (f_M_inside_e_ok hD hf (fun _ e => by rw [e]))
