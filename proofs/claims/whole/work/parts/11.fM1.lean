theorem d139_0 : decode (xcode 139) 0 = .ok (.lload_n 0, 1) := by decide +kernel
theorem d139_1 : decode (xcode 139) 1 = .ok (.lload_n 2, 1) := by decide +kernel
theorem d139_2 : decode (xcode 139) 2 = .ok (.lcmp, 1) := by decide +kernel
theorem d139_3 : decode (xcode 139) 3 = .ok (.ifCond .lt 14, 3) := by decide +kernel
theorem d139_6 : decode (xcode 139) 6 = .ok (.lload_n 0, 1) := by decide +kernel
theorem d139_7 : decode (xcode 139) 7 = .ok (.lload 4, 2) := by decide +kernel
theorem d139_9 : decode (xcode 139) 9 = .ok (.lcmp, 1) := by decide +kernel
theorem d139_10 : decode (xcode 139) 10 = .ok (.ifCond .gt 7, 3) := by decide +kernel
theorem d139_13 : decode (xcode 139) 13 = .ok (.iconst 1, 1) := by decide +kernel
theorem d139_14 : decode (xcode 139) 14 = .ok (.goto 4, 3) := by decide +kernel
theorem d139_17 : decode (xcode 139) 17 = .ok (.iconst 0, 1) := by decide +kernel
theorem d139_18 : decode (xcode 139) 18 = .ok (.ireturn, 1) := by decide +kernel
noncomputable def f_M_in_e (v0 : Int64) (v2 : Int64) (v4 : Int64) (h : xH) : Option Int32 :=
  if (lg_cmp v0 v2) < (0 : Int32) then (
  some ((0 : Int32))) else (
  if (0 : Int32) < (lg_cmp v0 v4) then (
  some ((0 : Int32))) else (
  some ((1 : Int32))))
set_option maxHeartbeats 4000000 in
set_option maxRecDepth 100000 in
theorem f_M_in_e_ok {g : xG} {l : Launch} {d : Nat} {v0 : Int64} {v2 : Int64} {v4 : Int64} {h : xH} {o : Int32} {R : Option xV} (hD : 0 ≤ d) (hf : f_M_in_e v0 v2 v4 h = some o) (K0 : ∀ (a : Int32), o = a → R = some (xi a)) : xEv g l d 139 0 [(0, xl v0), (2, xl v2), (4, xl v4)] [] h R h := by
  unfold f_M_in_e at hf
  refine xs_lload_n d139_0 rfl ?_
  refine xs_lload_n d139_1 rfl ?_
  refine xs_lcmp d139_2 ?_
  rcases lk_if hf with ⟨hc1, hf⟩ | ⟨hc1, hf⟩
  · refine xs_if_lt (tgt := 17) d139_3 (by decide) (fun _ => ?_) (fun hn => absurd hc1 hn)
    refine xs_iconst (v := 0) d139_17 (by decide) ?_
    obtain eR := K0 _ (Option.some.inj hf).symm
    subst eR
    exact xe_zret d139_18 (Or.inl rfl) rt139
  · refine xs_if_lt (tgt := 17) d139_3 (by decide) (fun hp => absurd hp hc1) (fun _ => ?_)
    refine xs_lload_n d139_6 rfl ?_
    refine xs_lload d139_7 rfl ?_
    refine xs_lcmp d139_9 ?_
    rcases lk_if hf with ⟨hc2, hf⟩ | ⟨hc2, hf⟩
    · refine xs_if_gt (tgt := 17) d139_10 (by decide) (fun _ => ?_) (fun hn => absurd hc2 hn)
      refine xs_iconst (v := 0) d139_17 (by decide) ?_
      obtain eR := K0 _ (Option.some.inj hf).symm
      subst eR
      exact xe_zret d139_18 (Or.inl rfl) rt139
    · refine xs_if_gt (tgt := 17) d139_10 (by decide) (fun hp => absurd hp hc2) (fun _ => ?_)
      refine xs_iconst (v := 1) d139_13 (by decide) ?_
      refine xs_goto (tgt := 18) d139_14 (by decide) ?_
      obtain eR := K0 _ (Option.some.inj hf).symm
      subst eR
      exact xe_zret d139_18 (Or.inr rfl) rt139
noncomputable def f_M_in (v0 : Int64) (v2 : Int64) (v4 : Int64) (h : xH) : Option Int32 := f_M_in_e v0 v2 v4 h
theorem f_M_in_ok {g : xG} {l : Launch} {d : Nat} {v0 : Int64} {v2 : Int64} {v4 : Int64} {h : xH} {r : Int32} (hD : 0 ≤ d) (hf : f_M_in v0 v2 v4 h = some r) : xC g l d 139 [xl v0, xl v2, xl v4] h (some (xi r)) h :=
  xC_of2 (by decide) mx139 (Nat.le_of_ble_eq_true rfl) (f_M_in_e_ok hD hf (fun _ e => by rw [e]))
theorem d140_0 : decode (xcode 140) 0 = .ok (.iload_n 0, 1) := by decide +kernel
theorem d140_1 : decode (xcode 140) 1 = .ok (.iload_n 1, 1) := by decide +kernel
theorem d140_2 : decode (xcode 140) 2 = .ok (.ishr, 1) := by decide +kernel
theorem d140_3 : decode (xcode 140) 3 = .ok (.iconst 1, 1) := by decide +kernel
theorem d140_4 : decode (xcode 140) 4 = .ok (.iand, 1) := by decide +kernel
theorem d140_5 : decode (xcode 140) 5 = .ok (.iconst 1, 1) := by decide +kernel
theorem d140_6 : decode (xcode 140) 6 = .ok (.if_icmp .ne 7, 3) := by decide +kernel
theorem d140_9 : decode (xcode 140) 9 = .ok (.iconst 1, 1) := by decide +kernel
theorem d140_10 : decode (xcode 140) 10 = .ok (.goto 4, 3) := by decide +kernel
theorem d140_13 : decode (xcode 140) 13 = .ok (.iconst 0, 1) := by decide +kernel
theorem d140_14 : decode (xcode 140) 14 = .ok (.ireturn, 1) := by decide +kernel
noncomputable def f_M_isOf_e (v0 : Int32) (v1 : Int32) (h : xH) : Option Int32 :=
  if ((v0 >>> (v1 &&& 31)) &&& (1 : Int32)) = (1 : Int32) then (
  some ((1 : Int32))) else (
  some ((0 : Int32)))
set_option maxHeartbeats 4000000 in
set_option maxRecDepth 100000 in
theorem f_M_isOf_e_ok {g : xG} {l : Launch} {d : Nat} {v0 : Int32} {v1 : Int32} {h : xH} {o : Int32} {R : Option xV} (hD : 0 ≤ d) (hf : f_M_isOf_e v0 v1 h = some o) (K0 : ∀ (a : Int32), o = a → R = some (xi a)) : xEv g l d 140 0 [(0, xi v0), (1, xi v1)] [] h R h := by
  unfold f_M_isOf_e at hf
  refine xs_iload_n d140_0 rfl ?_
  refine xs_iload_n d140_1 rfl ?_
  refine xs_ishr d140_2 ?_
  refine xs_iconst (v := 1) d140_3 (by decide) ?_
  refine xs_iand d140_4 ?_
  refine xs_iconst (v := 1) d140_5 (by decide) ?_
  rcases lk_if hf with ⟨hc1, hf⟩ | ⟨hc1, hf⟩
  · refine xs_icmp_ne (tgt := 13) d140_6 (by decide) (fun _ => ?_) (fun hn => absurd hc1 hn)
    refine xs_iconst (v := 1) d140_9 (by decide) ?_
    refine xs_goto (tgt := 14) d140_10 (by decide) ?_
    obtain eR := K0 _ (Option.some.inj hf).symm
    subst eR
    exact xe_zret d140_14 (Or.inr rfl) rt140
  · refine xs_icmp_ne (tgt := 13) d140_6 (by decide) (fun hp => absurd hp hc1) (fun _ => ?_)
    refine xs_iconst (v := 0) d140_13 (by decide) ?_
    obtain eR := K0 _ (Option.some.inj hf).symm
    subst eR
    exact xe_zret d140_14 (Or.inl rfl) rt140
noncomputable def f_M_isOf (v0 : Int32) (v1 : Int32) (h : xH) : Option Int32 := f_M_isOf_e v0 v1 h
theorem f_M_isOf_ok {g : xG} {l : Launch} {d : Nat} {v0 : Int32} {v1 : Int32} {h : xH} {r : Int32} (hD : 0 ≤ d) (hf : f_M_isOf v0 v1 h = some r) : xC g l d 140 [xi v0, xi v1] h (some (xi r)) h :=
  xC_of2 (by decide) mx140 (Nat.le_of_ble_eq_true rfl) (f_M_isOf_e_ok hD hf (fun _ e => by rw [e]))
theorem d141_0 : decode (xcode 141) 0 = .ok (.iconst 0, 1) := by decide +kernel
theorem d141_1 : decode (xcode 141) 1 = .ok (.istore_n 1, 1) := by decide +kernel
theorem d141_2 : decode (xcode 141) 2 = .ok (.iload_n 0, 1) := by decide +kernel
theorem d141_3 : decode (xcode 141) 3 = .ok (.istore_n 2, 1) := by decide +kernel
theorem d141_4 : decode (xcode 141) 4 = .ok (.iload_n 2, 1) := by decide +kernel
theorem d141_5 : decode (xcode 141) 5 = .ok (.ifCond .eq 15, 3) := by decide +kernel
theorem d141_8 : decode (xcode 141) 8 = .ok (.iinc 1 1, 3) := by decide +kernel
theorem d141_11 : decode (xcode 141) 11 = .ok (.iload_n 2, 1) := by decide +kernel
theorem d141_12 : decode (xcode 141) 12 = .ok (.iload_n 2, 1) := by decide +kernel
theorem d141_13 : decode (xcode 141) 13 = .ok (.iconst 1, 1) := by decide +kernel
theorem d141_14 : decode (xcode 141) 14 = .ok (.isub, 1) := by decide +kernel
theorem d141_15 : decode (xcode 141) 15 = .ok (.iand, 1) := by decide +kernel
theorem d141_16 : decode (xcode 141) 16 = .ok (.istore_n 2, 1) := by decide +kernel
theorem d141_17 : decode (xcode 141) 17 = .ok (.goto (-13), 3) := by decide +kernel
theorem d141_20 : decode (xcode 141) 20 = .ok (.iload_n 1, 1) := by decide +kernel
theorem d141_21 : decode (xcode 141) 21 = .ok (.ireturn, 1) := by decide +kernel
noncomputable def f_M_bits_s4 (v1 : Int32) (v2 : Int32) (h : xH) : Option ((Int32 × Int32) ⊕ Int32) :=
  if v2 = (0 : Int32) then (
  some (Sum.inr (v1))) else (
  xlet (v1 + (1 : Int32)) fun v1_2 =>
  xlet (v2 &&& (v2 - (1 : Int32))) fun v2_3 =>
  some (Sum.inl (v1_2, v2_3)))
set_option maxHeartbeats 4000000 in
set_option maxRecDepth 100000 in
theorem f_M_bits_s4_ok {g : xG} {l : Launch} {d : Nat} {v1 : Int32} {v2 : Int32} {h : xH} {o : ((Int32 × Int32) ⊕ Int32)} {R : Option xV} (hD : 0 ≤ d) (hf : f_M_bits_s4 v1 v2 h = some o) (K1 : ∀ (w1 : Int32) (w2 : Int32), o = Sum.inl (w1, w2) → xEv g l d 141 4 [(1, xi w1), (2, xi w2)] [] h R h) (K0 : ∀ (a : Int32), o = Sum.inr (a) → R = some (xi a)) : xEv g l d 141 4 [(1, xi v1), (2, xi v2)] [] h R h := by
  unfold f_M_bits_s4 at hf
  refine xs_iload_n d141_4 rfl ?_
  rcases lk_if hf with ⟨hc1, hf⟩ | ⟨hc1, hf⟩
  · refine xs_if_eq (tgt := 20) d141_5 (by decide) (fun _ => ?_) (fun hn => absurd hc1 hn)
    refine xs_iload_n d141_20 rfl ?_
    obtain eR := K0 _ (Option.some.inj hf).symm
    subst eR
    exact xs_iret d141_21 rt141
  · refine xs_if_eq (tgt := 20) d141_5 (by decide) (fun hp => absurd hp hc1) (fun _ => ?_)
    obtain ⟨v1_2, ev1_2, hf⟩ := lk_let hf
    refine xe_iinc (v := v1_2) (b := 1) (ls2 := [(1, xi v1_2), (2, xi v2)]) d141_8 mx141 (by decide) rfl (by decide) ev1_2 rfl ?_
    refine xs_iload_n d141_11 rfl ?_
    refine xs_iload_n d141_12 rfl ?_
    refine xs_iconst (v := 1) d141_13 (by decide) ?_
    refine xs_isub d141_14 ?_
    refine xs_iand d141_15 ?_
    obtain ⟨v2_3, ev2_3, hf⟩ := lk_let hf
    refine xe_istore_n (v := v2_3) (ls2 := [(1, xi v1_2), (2, xi v2_3)]) d141_16 mx141 (by decide) ev2_3 rfl ?_
    refine xs_goto (tgt := 4) d141_17 (by decide) ?_
    exact K1 _ _ (Option.some.inj hf).symm
noncomputable def f_M_bits_l4 (v1 : Int32) (v2 : Int32) (h : xH) : Option Int32 :=
  whl (fun s => f_M_bits_s4 s.1 s.2 h) (v1, v2)
theorem f_M_bits_l4_ok {g : xG} {l : Launch} {d : Nat} {v1 : Int32} {v2 : Int32} {h : xH} {o : Int32} {R : Option xV} (hD : 0 ≤ d) (hf : f_M_bits_l4 v1 v2 h = some o) (K0 : ∀ (a : Int32), o = a → R = some (xi a)) : xEv g l d 141 4 [(1, xi v1), (2, xi v2)] [] h R h := by
  obtain ⟨n, hn⟩ := whl_iff.mp hf
  clear hf
  induction n generalizing v1 v2 with
  | zero => cases hn
  | succ n ih =>
    obtain ⟨o2, hs, hn⟩ := lk_b (show (f_M_bits_s4 v1 v2 h).bind (fun o => Sum.elim (itn _ n) some o) = some o from hn)
    exact f_M_bits_s4_ok hD hs (fun u0 u1 e => ih (by rw [e] at hn; exact hn)) (fun u0 e => K0 u0 (by rw [e] at hn; exact (Option.some.inj hn).symm))
noncomputable def f_M_bits_e (v0 : Int32) (h : xH) : Option Int32 :=
  f_M_bits_l4 (0 : Int32) v0 h
set_option maxHeartbeats 4000000 in
set_option maxRecDepth 100000 in
theorem f_M_bits_e_ok {g : xG} {l : Launch} {d : Nat} {v0 : Int32} {h : xH} {o : Int32} {R : Option xV} (hD : 0 ≤ d) (hf : f_M_bits_e v0 h = some o) (K0 : ∀ (a : Int32), o = a → R = some (xi a)) : xEv g l d 141 0 [(0, xi v0)] [] h R h := by
  unfold f_M_bits_e at hf
  refine xs_iconst (v := 0) d141_0 (by decide) ?_
  refine xe_istore_n (v := (0 : Int32)) (ls2 := [(0, xi v0), (1, xi (0 : Int32))]) d141_1 mx141 (by decide) rfl rfl ?_
  refine xs_iload_n d141_2 rfl ?_
  refine xe_istore_n (v := v0) (ls2 := [(0, xi v0), (1, xi (0 : Int32)), (2, xi v0)]) d141_3 mx141 (by decide) rfl rfl ?_
  refine xs_pick [1, 2] rfl ?_
  exact f_M_bits_l4_ok hD hf K0
noncomputable def f_M_bits (v0 : Int32) (h : xH) : Option Int32 := f_M_bits_e v0 h
theorem f_M_bits_ok {g : xG} {l : Launch} {d : Nat} {v0 : Int32} {h : xH} {r : Int32} (hD : 0 ≤ d) (hf : f_M_bits v0 h = some r) : xC g l d 141 [xi v0] h (some (xi r)) h :=
  xC_of2 (by decide) mx141 (Nat.le_of_ble_eq_true rfl) (f_M_bits_e_ok hD hf (fun _ e => by rw [e]))
theorem d142_0 : decode (xcode 142) 0 = .ok (.bipush 24, 2) := by decide +kernel
theorem d142_2 : decode (xcode 142) 2 = .ok (.istore_n 2, 1) := by decide +kernel
theorem d142_3 : decode (xcode 142) 3 = .ok (.iload_n 2, 1) := by decide +kernel
theorem d142_4 : decode (xcode 142) 4 = .ok (.ifCond .lt 32, 3) := by decide +kernel
theorem d142_7 : decode (xcode 142) 7 = .ok (.aload_n 0, 1) := by decide +kernel
theorem d142_8 : decode (xcode 142) 8 = .ok (.getfield 7, 3) := by decide +kernel
theorem d142_11 : decode (xcode 142) 11 = .ok (.aload_n 0, 1) := by decide +kernel
theorem d142_12 : decode (xcode 142) 12 = .ok (.getfield 86, 3) := by decide +kernel
theorem d142_15 : decode (xcode 142) 15 = .ok (.iload_n 1, 1) := by decide +kernel
theorem d142_16 : decode (xcode 142) 16 = .ok (.iload_n 2, 1) := by decide +kernel
theorem d142_17 : decode (xcode 142) 17 = .ok (.ishr, 1) := by decide +kernel
theorem d142_18 : decode (xcode 142) 18 = .ok (.i2b, 1) := by decide +kernel
theorem d142_19 : decode (xcode 142) 19 = .ok (.bastore, 1) := by decide +kernel
theorem d142_20 : decode (xcode 142) 20 = .ok (.aload_n 0, 1) := by decide +kernel
theorem d142_21 : decode (xcode 142) 21 = .ok (.dup, 1) := by decide +kernel
theorem d142_22 : decode (xcode 142) 22 = .ok (.getfield 86, 3) := by decide +kernel
theorem d142_25 : decode (xcode 142) 25 = .ok (.iconst 1, 1) := by decide +kernel
theorem d142_26 : decode (xcode 142) 26 = .ok (.iadd, 1) := by decide +kernel
theorem d142_27 : decode (xcode 142) 27 = .ok (.putfield 86, 3) := by decide +kernel
theorem d142_30 : decode (xcode 142) 30 = .ok (.iinc 2 (-8), 3) := by decide +kernel
theorem d142_33 : decode (xcode 142) 33 = .ok (.goto (-30), 3) := by decide +kernel
theorem d142_36 : decode (xcode 142) 36 = .ok (.return_, 1) := by decide +kernel
noncomputable def f_M_four_s3 (v1 : Int32) (v2 : Int32) (h : xH) : Option ((Int32 × xH) ⊕ xH) :=
  if v2 < (0 : Int32) then (
  some (Sum.inr (h))) else (
  if xib (h.1 12 1 0) 400 then (
  xlet (xsA h 47 0 (upd (h.2.2.2.1 47 0) (h.1 12 1 0).toNatClampNeg ((v1 >>> (v2 &&& 31)).toInt8.toInt32).toInt8.toInt32)) fun h3 =>
  xlet (xsI h3 12 1 0 ((h3.1 12 1 0) + (1 : Int32))) fun h4 =>
  xlet (v2 + (-8 : Int32)) fun v2_5 =>
  some (Sum.inl (v2_5, h4))) else none)
set_option maxHeartbeats 4000000 in
set_option maxRecDepth 100000 in
theorem f_M_four_s3_ok {g : xG} {l : Launch} {d : Nat} {v1 : Int32} {v2 : Int32} {h : xH} {o : ((Int32 × xH) ⊕ xH)} {R : Option xV} {H' : xH} (hD : 0 ≤ d) (hf : f_M_four_s3 v1 v2 h = some o) (K1 : ∀ (w2 : Int32) (h1 : xH), o = Sum.inl (w2, h1) → xEv g l d 142 3 [(0, xr 12 (some 0)), (1, xi v1), (2, xi w2)] [] h1 R H') (K0 : ∀ (h1 : xH), o = Sum.inr (h1) → R = none ∧ H' = h1) : xEv g l d 142 3 [(0, xr 12 (some 0)), (1, xi v1), (2, xi v2)] [] h R H' := by
  unfold f_M_four_s3 at hf
  refine xs_iload_n d142_3 rfl ?_
  rcases lk_if hf with ⟨hc1, hf⟩ | ⟨hc1, hf⟩
  · refine xs_if_lt (tgt := 36) d142_4 (by decide) (fun _ => ?_) (fun hn => absurd hc1 hn)
    obtain ⟨eR, eH⟩ := K0 _ (Option.some.inj hf).symm
    subst eR; subst eH
    exact xs_vret d142_36 rt142
  · refine xs_if_lt (tgt := 36) d142_4 (by decide) (fun hp => absurd hp hc1) (fun _ => ?_)
    refine xs_aload_n d142_7 rfl ?_
    refine xe_getc (j := 0) d142_8 ky142 fl161 fk12_0 rfl ?_
    refine xs_aload_n d142_11 rfl ?_
    refine xe_geti d142_12 ky142 fl162 fk12_1 ?_
    refine xs_iload_n d142_15 rfl ?_
    refine xs_iload_n d142_16 rfl ?_
    refine xs_ishr d142_17 ?_
    refine xs_i2b d142_18 ?_
    obtain ⟨hin2, hf⟩ := lk_g hf
    obtain ⟨h3, eh3, hf⟩ := lk_let hf
    refine xe_bast d142_19 (by decide) ak47 hin2  eh3 ?_
    refine xs_aload_n d142_20 rfl ?_
    refine xs_dup d142_21 rfl ?_
    refine xe_geti d142_22 ky142 fl162 fk12_1 ?_
    refine xs_iconst (v := 1) d142_25 (by decide) ?_
    refine xs_iadd d142_26 ?_
    obtain ⟨h4, eh4, hf⟩ := lk_let hf
    refine xe_puti d142_27 ky142 fl162 fk12_1 ft12_1 eh4 ?_
    obtain ⟨v2_5, ev2_5, hf⟩ := lk_let hf
    refine xe_iinc (v := v2_5) (b := -8) (ls2 := [(0, xr 12 (some 0)), (1, xi v1), (2, xi v2_5)]) d142_30 mx142 (by decide) rfl (by decide) ev2_5 rfl ?_
    refine xs_goto (tgt := 3) d142_33 (by decide) ?_
    exact K1 _ _ (Option.some.inj hf).symm
noncomputable def f_M_four_l3 (v1 : Int32) (v2 : Int32) (h : xH) : Option xH :=
  whl (fun s => f_M_four_s3 v1 s.1 s.2) (v2, h)
theorem f_M_four_l3_ok {g : xG} {l : Launch} {d : Nat} {v1 : Int32} {v2 : Int32} {h : xH} {o : xH} {R : Option xV} {H' : xH} (hD : 0 ≤ d) (hf : f_M_four_l3 v1 v2 h = some o) (K0 : ∀ (h1 : xH), o = h1 → R = none ∧ H' = h1) : xEv g l d 142 3 [(0, xr 12 (some 0)), (1, xi v1), (2, xi v2)] [] h R H' := by
  obtain ⟨n, hn⟩ := whl_iff.mp hf
  clear hf
  induction n generalizing v2 h with
  | zero => cases hn
  | succ n ih =>
    obtain ⟨o2, hs, hn⟩ := lk_b (show (f_M_four_s3 v1 v2 h).bind (fun o => Sum.elim (itn _ n) some o) = some o from hn)
    exact f_M_four_s3_ok hD hs (fun u0 u1 e => ih (by rw [e] at hn; exact hn)) (fun u0 e => K0 u0 (by rw [e] at hn; exact (Option.some.inj hn).symm))
noncomputable def f_M_four_e (v1 : Int32) (h : xH) : Option xH :=
  f_M_four_l3 v1 (24 : Int32) h
set_option maxHeartbeats 4000000 in
set_option maxRecDepth 100000 in
theorem f_M_four_e_ok {g : xG} {l : Launch} {d : Nat} {v1 : Int32} {h : xH} {o : xH} {R : Option xV} {H' : xH} (hD : 0 ≤ d) (hf : f_M_four_e v1 h = some o) (K0 : ∀ (h1 : xH), o = h1 → R = none ∧ H' = h1) : xEv g l d 142 0 [(0, xr 12 (some 0)), (1, xi v1)] [] h R H' := by
  unfold f_M_four_e at hf
  refine xs_bipush (v := 24) d142_0 (by decide) ?_
  refine xe_istore_n (v := (24 : Int32)) (ls2 := [(0, xr 12 (some 0)), (1, xi v1), (2, xi (24 : Int32))]) d142_2 mx142 (by decide) rfl rfl ?_
  exact f_M_four_l3_ok hD hf K0
noncomputable def f_M_four (v1 : Int32) (h : xH) : Option xH := f_M_four_e v1 h
theorem f_M_four_ok {g : xG} {l : Launch} {d : Nat} {v1 : Int32} {h : xH} {h1 : xH} (hD : 0 ≤ d) (hf : f_M_four v1 h = some h1) : xC g l d 142 [xr 12 (some 0), xi v1] h none h1 :=
  xC_of2 (by decide) mx142 (Nat.le_of_ble_eq_true rfl) (f_M_four_e_ok hD hf (fun _ e => ⟨rfl, e⟩))
theorem d143_0 : decode (xcode 143) 0 = .ok (.aload_n 0, 1) := by decide +kernel
theorem d143_1 : decode (xcode 143) 1 = .ok (.getfield 86, 3) := by decide +kernel
theorem d143_4 : decode (xcode 143) 4 = .ok (.bipush 20, 2) := by decide +kernel
theorem d143_6 : decode (xcode 143) 6 = .ok (.iadd, 1) := by decide +kernel
theorem d143_7 : decode (xcode 143) 7 = .ok (.sipush 400, 3) := by decide +kernel
theorem d143_10 : decode (xcode 143) 10 = .ok (.if_icmp .le 5, 3) := by decide +kernel
theorem d143_13 : decode (xcode 143) 13 = .ok (.iconst (-1), 1) := by decide +kernel
theorem d143_14 : decode (xcode 143) 14 = .ok (.ireturn, 1) := by decide +kernel
theorem d143_15 : decode (xcode 143) 15 = .ok (.aload_n 0, 1) := by decide +kernel
theorem d143_16 : decode (xcode 143) 16 = .ok (.iload_n 1, 1) := by decide +kernel
theorem d143_17 : decode (xcode 143) 17 = .ok (.invokevirtual 89, 3) := by decide +kernel
theorem d143_20 : decode (xcode 143) 20 = .ok (.aload_n 0, 1) := by decide +kernel
theorem d143_21 : decode (xcode 143) 21 = .ok (.iload_n 2, 1) := by decide +kernel
theorem d143_22 : decode (xcode 143) 22 = .ok (.invokevirtual 89, 3) := by decide +kernel
theorem d143_25 : decode (xcode 143) 25 = .ok (.aload_n 0, 1) := by decide +kernel
theorem d143_26 : decode (xcode 143) 26 = .ok (.iload_n 3, 1) := by decide +kernel
theorem d143_27 : decode (xcode 143) 27 = .ok (.invokevirtual 89, 3) := by decide +kernel
theorem d143_30 : decode (xcode 143) 30 = .ok (.aload_n 0, 1) := by decide +kernel
theorem d143_31 : decode (xcode 143) 31 = .ok (.iload 4, 2) := by decide +kernel
theorem d143_33 : decode (xcode 143) 33 = .ok (.invokevirtual 89, 3) := by decide +kernel
theorem d143_36 : decode (xcode 143) 36 = .ok (.aload_n 0, 1) := by decide +kernel
theorem d143_37 : decode (xcode 143) 37 = .ok (.iload 5, 2) := by decide +kernel
theorem d143_39 : decode (xcode 143) 39 = .ok (.invokevirtual 89, 3) := by decide +kernel
theorem d143_42 : decode (xcode 143) 42 = .ok (.aload_n 0, 1) := by decide +kernel
theorem d143_43 : decode (xcode 143) 43 = .ok (.getfield 86, 3) := by decide +kernel
theorem d143_46 : decode (xcode 143) 46 = .ok (.ireturn, 1) := by decide +kernel
noncomputable def f_M_feed_e (v1 : Int32) (v2 : Int32) (v3 : Int32) (v4 : Int32) (v5 : Int32) (h : xH) : Option (Int32 × xH) :=
  if ((h.1 12 1 0) + (20 : Int32)) ≤ (400 : Int32) then (
  (f_M_four v1 h).bind fun h4 =>
  (f_M_four v2 h4).bind fun h7 =>
  (f_M_four v3 h7).bind fun h10 =>
  (f_M_four v4 h10).bind fun h13 =>
  (f_M_four v5 h13).bind fun h16 =>
  some ((h16.1 12 1 0, h16))) else (
  some (((-1 : Int32), h)))
set_option maxHeartbeats 4000000 in
set_option maxRecDepth 100000 in
theorem f_M_feed_e_ok {g : xG} {l : Launch} {d : Nat} {v1 : Int32} {v2 : Int32} {v3 : Int32} {v4 : Int32} {v5 : Int32} {h : xH} {o : (Int32 × xH)} {R : Option xV} {H' : xH} (hD : 1 ≤ d) (hf : f_M_feed_e v1 v2 v3 v4 v5 h = some o) (K0 : ∀ (a : Int32) (h1 : xH), o = (a, h1) → R = some (xi a) ∧ H' = h1) : xEv g l d 143 0 [(0, xr 12 (some 0)), (1, xi v1), (2, xi v2), (3, xi v3), (4, xi v4), (5, xi v5)] [] h R H' := by
  unfold f_M_feed_e at hf
  refine xs_aload_n d143_0 rfl ?_
  refine xe_geti d143_1 ky143 fl162 fk12_1 ?_
  refine xs_bipush (v := 20) d143_4 (by decide) ?_
  refine xs_iadd d143_6 ?_
  refine xs_sipush (v := 400) d143_7 (by decide) ?_
  rcases lk_if hf with ⟨hc1, hf⟩ | ⟨hc1, hf⟩
  · refine xs_icmp_le (tgt := 15) d143_10 (by decide) (fun _ => ?_) (fun hn => absurd hc1 hn)
    refine xs_aload_n d143_15 rfl ?_
    refine xs_iload_n d143_16 rfl ?_
    obtain ⟨h4, hc3, hf⟩ := lk_b hf
    refine xe_callv0 (as := [xi v1]) (st := []) (h2 := h4) (d2 := d - 1) d143_17 ky143 ml180 st142 (by decide) cn142 rfl na142 (Nat.le_of_ble_eq_true rfl) (by omega) (f_M_four_ok (by omega) hc3) ?_
    refine xs_aload_n d143_20 rfl ?_
    refine xs_iload_n d143_21 rfl ?_
    obtain ⟨h7, hc6, hf⟩ := lk_b hf
    refine xe_callv0 (as := [xi v2]) (st := []) (h2 := h7) (d2 := d - 1) d143_22 ky143 ml180 st142 (by decide) cn142 rfl na142 (Nat.le_of_ble_eq_true rfl) (by omega) (f_M_four_ok (by omega) hc6) ?_
    refine xs_aload_n d143_25 rfl ?_
    refine xs_iload_n d143_26 rfl ?_
    obtain ⟨h10, hc9, hf⟩ := lk_b hf
    refine xe_callv0 (as := [xi v3]) (st := []) (h2 := h10) (d2 := d - 1) d143_27 ky143 ml180 st142 (by decide) cn142 rfl na142 (Nat.le_of_ble_eq_true rfl) (by omega) (f_M_four_ok (by omega) hc9) ?_
    refine xs_aload_n d143_30 rfl ?_
    refine xs_iload d143_31 rfl ?_
    obtain ⟨h13, hc12, hf⟩ := lk_b hf
    refine xe_callv0 (as := [xi v4]) (st := []) (h2 := h13) (d2 := d - 1) d143_33 ky143 ml180 st142 (by decide) cn142 rfl na142 (Nat.le_of_ble_eq_true rfl) (by omega) (f_M_four_ok (by omega) hc12) ?_
    refine xs_aload_n d143_36 rfl ?_
    refine xs_iload d143_37 rfl ?_
    obtain ⟨h16, hc15, hf⟩ := lk_b hf
    refine xe_callv0 (as := [xi v5]) (st := []) (h2 := h16) (d2 := d - 1) d143_39 ky143 ml180 st142 (by decide) cn142 rfl na142 (Nat.le_of_ble_eq_true rfl) (by omega) (f_M_four_ok (by omega) hc15) ?_
    refine xs_aload_n d143_42 rfl ?_
    refine xe_geti d143_43 ky143 fl162 fk12_1 ?_
    obtain ⟨eR, eH⟩ := K0 _ _ (Option.some.inj hf).symm
    subst eR; subst eH
    exact xs_iret d143_46 rt143
  · refine xs_icmp_le (tgt := 15) d143_10 (by decide) (fun hp => absurd hp hc1) (fun _ => ?_)
    refine xs_iconst (v := -1) d143_13 (by decide) ?_
    obtain ⟨eR, eH⟩ := K0 _ _ (Option.some.inj hf).symm
    subst eR; subst eH
    exact xs_iret d143_14 rt143
noncomputable def f_M_feed (v1 : Int32) (v2 : Int32) (v3 : Int32) (v4 : Int32) (v5 : Int32) (h : xH) : Option (Int32 × xH) := f_M_feed_e v1 v2 v3 v4 v5 h
theorem f_M_feed_ok {g : xG} {l : Launch} {d : Nat} {v1 : Int32} {v2 : Int32} {v3 : Int32} {v4 : Int32} {v5 : Int32} {h : xH} {r : Int32} {h1 : xH} (hD : 1 ≤ d) (hf : f_M_feed v1 v2 v3 v4 v5 h = some (r, h1)) : xC g l d 143 [xr 12 (some 0), xi v1, xi v2, xi v3, xi v4, xi v5] h (some (xi r)) h1 :=
  xC_of2 (by decide) mx143 (Nat.le_of_ble_eq_true rfl) (f_M_feed_e_ok hD hf (fun _ _ e => by cases e; exact ⟨rfl, rfl⟩))
theorem d144_0 : decode (xcode 144) 0 = .ok (.iload_n 1, 1) := by decide +kernel
theorem d144_1 : decode (xcode 144) 1 = .ok (.ifCond .lt 11, 3) := by decide +kernel
theorem d144_4 : decode (xcode 144) 4 = .ok (.iload_n 1, 1) := by decide +kernel
theorem d144_5 : decode (xcode 144) 5 = .ok (.aload_n 0, 1) := by decide +kernel
theorem d144_6 : decode (xcode 144) 6 = .ok (.getfield 86, 3) := by decide +kernel
theorem d144_9 : decode (xcode 144) 9 = .ok (.if_icmp .le 5, 3) := by decide +kernel
theorem d144_12 : decode (xcode 144) 12 = .ok (.iconst (-1), 1) := by decide +kernel
theorem d144_13 : decode (xcode 144) 13 = .ok (.ireturn, 1) := by decide +kernel
theorem d144_14 : decode (xcode 144) 14 = .ok (.aload_n 0, 1) := by decide +kernel
theorem d144_15 : decode (xcode 144) 15 = .ok (.iload_n 1, 1) := by decide +kernel
theorem d144_16 : decode (xcode 144) 16 = .ok (.putfield 86, 3) := by decide +kernel
theorem d144_19 : decode (xcode 144) 19 = .ok (.iload_n 1, 1) := by decide +kernel
theorem d144_20 : decode (xcode 144) 20 = .ok (.ireturn, 1) := by decide +kernel
noncomputable def f_M_end_e (v1 : Int32) (h : xH) : Option (Int32 × xH) :=
  if v1 < (0 : Int32) then (
  some (((-1 : Int32), h))) else (
  if v1 ≤ (h.1 12 1 0) then (
  xlet (xsI h 12 1 0 v1) fun h3 =>
  some ((v1, h3))) else (
  some (((-1 : Int32), h))))
set_option maxHeartbeats 4000000 in
set_option maxRecDepth 100000 in
theorem f_M_end_e_ok {g : xG} {l : Launch} {d : Nat} {v1 : Int32} {h : xH} {o : (Int32 × xH)} {R : Option xV} {H' : xH} (hD : 0 ≤ d) (hf : f_M_end_e v1 h = some o) (K0 : ∀ (a : Int32) (h1 : xH), o = (a, h1) → R = some (xi a) ∧ H' = h1) : xEv g l d 144 0 [(0, xr 12 (some 0)), (1, xi v1)] [] h R H' := by
  unfold f_M_end_e at hf
  refine xs_iload_n d144_0 rfl ?_
  rcases lk_if hf with ⟨hc1, hf⟩ | ⟨hc1, hf⟩
  · refine xs_if_lt (tgt := 12) d144_1 (by decide) (fun _ => ?_) (fun hn => absurd hc1 hn)
    refine xs_iconst (v := -1) d144_12 (by decide) ?_
    obtain ⟨eR, eH⟩ := K0 _ _ (Option.some.inj hf).symm
    subst eR; subst eH
    exact xs_iret d144_13 rt144
  · refine xs_if_lt (tgt := 12) d144_1 (by decide) (fun hp => absurd hp hc1) (fun _ => ?_)
    refine xs_iload_n d144_4 rfl ?_
    refine xs_aload_n d144_5 rfl ?_
    refine xe_geti d144_6 ky144 fl162 fk12_1 ?_
    rcases lk_if hf with ⟨hc2, hf⟩ | ⟨hc2, hf⟩
    · refine xs_icmp_le (tgt := 14) d144_9 (by decide) (fun _ => ?_) (fun hn => absurd hc2 hn)
      refine xs_aload_n d144_14 rfl ?_
      refine xs_iload_n d144_15 rfl ?_
      obtain ⟨h3, eh3, hf⟩ := lk_let hf
      refine xe_puti d144_16 ky144 fl162 fk12_1 ft12_1 eh3 ?_
      refine xs_iload_n d144_19 rfl ?_
      obtain ⟨eR, eH⟩ := K0 _ _ (Option.some.inj hf).symm
      subst eR; subst eH
      exact xs_iret d144_20 rt144
    · refine xs_icmp_le (tgt := 14) d144_9 (by decide) (fun hp => absurd hp hc2) (fun _ => ?_)
      refine xs_iconst (v := -1) d144_12 (by decide) ?_
      obtain ⟨eR, eH⟩ := K0 _ _ (Option.some.inj hf).symm
      subst eR; subst eH
      exact xs_iret d144_13 rt144
noncomputable def f_M_end (v1 : Int32) (h : xH) : Option (Int32 × xH) := f_M_end_e v1 h
theorem f_M_end_ok {g : xG} {l : Launch} {d : Nat} {v1 : Int32} {h : xH} {r : Int32} {h1 : xH} (hD : 0 ≤ d) (hf : f_M_end v1 h = some (r, h1)) : xC g l d 144 [xr 12 (some 0), xi v1] h (some (xi r)) h1 :=
  xC_of2 (by decide) mx144 (Nat.le_of_ble_eq_true rfl) (f_M_end_e_ok hD hf (fun _ _ e => by cases e; exact ⟨rfl, rfl⟩))
theorem d145_0 : decode (xcode 145) 0 = .ok (.aload_n 0, 1) := by decide +kernel
theorem d145_1 : decode (xcode 145) 1 = .ok (.getfield 93, 3) := by decide +kernel
theorem d145_4 : decode (xcode 145) 4 = .ok (.ifCond .ne 15, 3) := by decide +kernel
theorem d145_7 : decode (xcode 145) 7 = .ok (.aload_n 0, 1) := by decide +kernel
theorem d145_8 : decode (xcode 145) 8 = .ok (.iconst 1, 1) := by decide +kernel
theorem d145_9 : decode (xcode 145) 9 = .ok (.bipush 8, 2) := by decide +kernel
theorem d145_11 : decode (xcode 145) 11 = .ok (.iload_n 2, 1) := by decide +kernel
theorem d145_12 : decode (xcode 145) 12 = .ok (.imul, 1) := by decide +kernel
theorem d145_13 : decode (xcode 145) 13 = .ok (.iadd, 1) := by decide +kernel
theorem d145_14 : decode (xcode 145) 14 = .ok (.iload_n 1, 1) := by decide +kernel
theorem d145_15 : decode (xcode 145) 15 = .ok (.iadd, 1) := by decide +kernel
theorem d145_16 : decode (xcode 145) 16 = .ok (.putfield 93, 3) := by decide +kernel
theorem d145_19 : decode (xcode 145) 19 = .ok (.iconst 0, 1) := by decide +kernel
theorem d145_20 : decode (xcode 145) 20 = .ok (.ireturn, 1) := by decide +kernel
noncomputable def f_M_fails_e (v1 : Int32) (v2 : Int32) (h : xH) : Option (Int32 × xH) :=
  if (h.1 12 9 0) = (0 : Int32) then (
  xlet (xsI h 12 9 0 (((1 : Int32) + ((8 : Int32) * v2)) + v1)) fun h2 =>
  some (((0 : Int32), h2))) else (
  some (((0 : Int32), h)))
set_option maxHeartbeats 4000000 in
set_option maxRecDepth 100000 in
theorem f_M_fails_e_ok {g : xG} {l : Launch} {d : Nat} {v1 : Int32} {v2 : Int32} {h : xH} {o : (Int32 × xH)} {R : Option xV} {H' : xH} (hD : 0 ≤ d) (hf : f_M_fails_e v1 v2 h = some o) (K0 : ∀ (a : Int32) (h1 : xH), o = (a, h1) → R = some (xi a) ∧ H' = h1) : xEv g l d 145 0 [(0, xr 12 (some 0)), (1, xi v1), (2, xi v2)] [] h R H' := by
  unfold f_M_fails_e at hf
  refine xs_aload_n d145_0 rfl ?_
  refine xe_geti d145_1 ky145 fl170 fk12_9 ?_
  rcases lk_if hf with ⟨hc1, hf⟩ | ⟨hc1, hf⟩
  · refine xs_if_ne (tgt := 19) d145_4 (by decide) (fun _ => ?_) (fun hn => absurd hc1 hn)
    refine xs_aload_n d145_7 rfl ?_
    refine xs_iconst (v := 1) d145_8 (by decide) ?_
    refine xs_bipush (v := 8) d145_9 (by decide) ?_
    refine xs_iload_n d145_11 rfl ?_
    refine xs_imul d145_12 ?_
    refine xs_iadd d145_13 ?_
    refine xs_iload_n d145_14 rfl ?_
    refine xs_iadd d145_15 ?_
    obtain ⟨h2, eh2, hf⟩ := lk_let hf
    refine xe_puti d145_16 ky145 fl170 fk12_9 ft12_9 eh2 ?_
    refine xs_iconst (v := 0) d145_19 (by decide) ?_
    obtain ⟨eR, eH⟩ := K0 _ _ (Option.some.inj hf).symm
    subst eR; subst eH
    exact xe_zret d145_20 (Or.inl rfl) rt145
  · refine xs_if_ne (tgt := 19) d145_4 (by decide) (fun hp => absurd hp hc1) (fun _ => ?_)
    refine xs_iconst (v := 0) d145_19 (by decide) ?_
    obtain ⟨eR, eH⟩ := K0 _ _ (Option.some.inj hf).symm
    subst eR; subst eH
    exact xe_zret d145_20 (Or.inl rfl) rt145
noncomputable def f_M_fails (v1 : Int32) (v2 : Int32) (h : xH) : Option (Int32 × xH) := f_M_fails_e v1 v2 h
theorem f_M_fails_ok {g : xG} {l : Launch} {d : Nat} {v1 : Int32} {v2 : Int32} {h : xH} {r : Int32} {h1 : xH} (hD : 0 ≤ d) (hf : f_M_fails v1 v2 h = some (r, h1)) : xC g l d 145 [xr 12 (some 0), xi v1, xi v2] h (some (xi r)) h1 :=
  xC_of2 (by decide) mx145 (Nat.le_of_ble_eq_true rfl) (f_M_fails_e_ok hD hf (fun _ _ e => by cases e; exact ⟨rfl, rfl⟩))
theorem d146_0 : decode (xcode 146) 0 = .ok (.aload_n 0, 1) := by decide +kernel
theorem d146_1 : decode (xcode 146) 1 = .ok (.getfield 96, 3) := by decide +kernel
theorem d146_4 : decode (xcode 146) 4 = .ok (.aload_n 0, 1) := by decide +kernel
theorem d146_5 : decode (xcode 146) 5 = .ok (.getfield 86, 3) := by decide +kernel
theorem d146_8 : decode (xcode 146) 8 = .ok (.if_icmp .ge 30, 3) := by decide +kernel
theorem d146_11 : decode (xcode 146) 11 = .ok (.aload_n 0, 1) := by decide +kernel
theorem d146_12 : decode (xcode 146) 12 = .ok (.getfield 7, 3) := by decide +kernel
theorem d146_15 : decode (xcode 146) 15 = .ok (.aload_n 0, 1) := by decide +kernel
theorem d146_16 : decode (xcode 146) 16 = .ok (.getfield 96, 3) := by decide +kernel
theorem d146_19 : decode (xcode 146) 19 = .ok (.baload, 1) := by decide +kernel
theorem d146_20 : decode (xcode 146) 20 = .ok (.bipush 32, 2) := by decide +kernel
theorem d146_22 : decode (xcode 146) 22 = .ok (.if_icmp .ne 16, 3) := by decide +kernel
theorem d146_25 : decode (xcode 146) 25 = .ok (.aload_n 0, 1) := by decide +kernel
theorem d146_26 : decode (xcode 146) 26 = .ok (.dup, 1) := by decide +kernel
theorem d146_27 : decode (xcode 146) 27 = .ok (.getfield 96, 3) := by decide +kernel
theorem d146_30 : decode (xcode 146) 30 = .ok (.iconst 1, 1) := by decide +kernel
theorem d146_31 : decode (xcode 146) 31 = .ok (.iadd, 1) := by decide +kernel
theorem d146_32 : decode (xcode 146) 32 = .ok (.putfield 96, 3) := by decide +kernel
theorem d146_35 : decode (xcode 146) 35 = .ok (.goto (-35), 3) := by decide +kernel
theorem d146_38 : decode (xcode 146) 38 = .ok (.aload_n 0, 1) := by decide +kernel
theorem d146_39 : decode (xcode 146) 39 = .ok (.getfield 96, 3) := by decide +kernel
theorem d146_42 : decode (xcode 146) 42 = .ok (.aload_n 0, 1) := by decide +kernel
theorem d146_43 : decode (xcode 146) 43 = .ok (.getfield 86, 3) := by decide +kernel
theorem d146_46 : decode (xcode 146) 46 = .ok (.if_icmp .ge 19, 3) := by decide +kernel
theorem d146_49 : decode (xcode 146) 49 = .ok (.aload_n 0, 1) := by decide +kernel
theorem d146_50 : decode (xcode 146) 50 = .ok (.getfield 7, 3) := by decide +kernel
theorem d146_53 : decode (xcode 146) 53 = .ok (.aload_n 0, 1) := by decide +kernel
theorem d146_54 : decode (xcode 146) 54 = .ok (.getfield 96, 3) := by decide +kernel
theorem d146_57 : decode (xcode 146) 57 = .ok (.baload, 1) := by decide +kernel
theorem d146_58 : decode (xcode 146) 58 = .ok (.sipush 255, 3) := by decide +kernel
theorem d146_61 : decode (xcode 146) 61 = .ok (.iand, 1) := by decide +kernel
theorem d146_62 : decode (xcode 146) 62 = .ok (.goto 4, 3) := by decide +kernel
theorem d146_65 : decode (xcode 146) 65 = .ok (.iconst (-1), 1) := by decide +kernel
theorem d146_66 : decode (xcode 146) 66 = .ok (.ireturn, 1) := by decide +kernel
noncomputable def f_M_see_b38 (h : xH) : Option (Int32 × xH) :=
  if (h.1 12 1 0) ≤ (h.1 12 8 0) then (
  some (((-1 : Int32), h))) else (
  if xib (h.1 12 8 0) 400 then (
  some (((h.2.2.2.1 47 0 (h.1 12 8 0).toNatClampNeg) &&& (255 : Int32), h))) else none)
set_option maxHeartbeats 4000000 in
set_option maxRecDepth 100000 in
theorem f_M_see_b38_ok {g : xG} {l : Launch} {d : Nat} {h : xH} {o : (Int32 × xH)} {R : Option xV} {H' : xH} (hD : 0 ≤ d) (hf : f_M_see_b38 h = some o) (K0 : ∀ (a : Int32) (h1 : xH), o = (a, h1) → R = some (xi a) ∧ H' = h1) : xEv g l d 146 38 [(0, xr 12 (some 0))] [] h R H' := by
  unfold f_M_see_b38 at hf
  refine xs_aload_n d146_38 rfl ?_
  refine xe_geti d146_39 ky146 fl169 fk12_8 ?_
  refine xs_aload_n d146_42 rfl ?_
  refine xe_geti d146_43 ky146 fl162 fk12_1 ?_
  rcases lk_if hf with ⟨hc2, hf⟩ | ⟨hc2, hf⟩
  · refine xs_icmp_ge (tgt := 65) d146_46 (by decide) (fun _ => ?_) (fun hn => absurd hc2 hn)
    refine xs_iconst (v := -1) d146_65 (by decide) ?_
    obtain ⟨eR, eH⟩ := K0 _ _ (Option.some.inj hf).symm
    subst eR; subst eH
    exact xs_iret d146_66 rt146
  · refine xs_icmp_ge (tgt := 65) d146_46 (by decide) (fun hp => absurd hp hc2) (fun _ => ?_)
    refine xs_aload_n d146_49 rfl ?_
    refine xe_getc (j := 0) d146_50 ky146 fl161 fk12_0 rfl ?_
    refine xs_aload_n d146_53 rfl ?_
    refine xe_geti d146_54 ky146 fl169 fk12_8 ?_
    obtain ⟨hin3, hf⟩ := lk_g hf
    refine xe_bald d146_57 (by decide) ak47 hin3 ?_
    refine xs_sipush (v := 255) d146_58 (by decide) ?_
    refine xs_iand d146_61 ?_
    refine xs_goto (tgt := 66) d146_62 (by decide) ?_
    obtain ⟨eR, eH⟩ := K0 _ _ (Option.some.inj hf).symm
    subst eR; subst eH
    exact xs_iret d146_66 rt146
noncomputable def f_M_see_s0 (h : xH) : Option ((xH) ⊕ (Int32 × xH)) :=
  if (h.1 12 1 0) ≤ (h.1 12 8 0) then (
  xup (f_M_see_b38 h)) else (
  if xib (h.1 12 8 0) 400 then (
  if (h.2.2.2.1 47 0 (h.1 12 8 0).toNatClampNeg) = (32 : Int32) then (
  xlet (xsI h 12 8 0 ((h.1 12 8 0) + (1 : Int32))) fun h6 =>
  some (Sum.inl h6)) else (
  xup (f_M_see_b38 h))) else none)
set_option maxHeartbeats 4000000 in
set_option maxRecDepth 100000 in
theorem f_M_see_s0_ok {g : xG} {l : Launch} {d : Nat} {h : xH} {o : ((xH) ⊕ (Int32 × xH))} {R : Option xV} {H' : xH} (hD : 0 ≤ d) (hf : f_M_see_s0 h = some o) (K1 : ∀ (h1 : xH), o = Sum.inl h1 → xEv g l d 146 0 [(0, xr 12 (some 0))] [] h1 R H') (K0 : ∀ (a : Int32) (h1 : xH), o = Sum.inr ((a, h1)) → R = some (xi a) ∧ H' = h1) : xEv g l d 146 0 [(0, xr 12 (some 0))] [] h R H' := by
  unfold f_M_see_s0 at hf
  refine xs_aload_n d146_0 rfl ?_
  refine xe_geti d146_1 ky146 fl169 fk12_8 ?_
  refine xs_aload_n d146_4 rfl ?_
  refine xe_geti d146_5 ky146 fl162 fk12_1 ?_
  rcases lk_if hf with ⟨hc1, hf⟩ | ⟨hc1, hf⟩
  · refine xs_icmp_ge (tgt := 38) d146_8 (by decide) (fun _ => ?_) (fun hn => absurd hc1 hn)
    obtain ⟨x0, hf, ex0⟩ := lk_up hf
    exact f_M_see_b38_ok hD hf (fun u0 u1 e => K0 u0 u1 (ex0.trans (congrArg Sum.inr e)))
  · refine xs_icmp_ge (tgt := 38) d146_8 (by decide) (fun hp => absurd hp hc1) (fun _ => ?_)
    refine xs_aload_n d146_11 rfl ?_
    refine xe_getc (j := 0) d146_12 ky146 fl161 fk12_0 rfl ?_
    refine xs_aload_n d146_15 rfl ?_
    refine xe_geti d146_16 ky146 fl169 fk12_8 ?_
    obtain ⟨hin4, hf⟩ := lk_g hf
    refine xe_bald d146_19 (by decide) ak47 hin4 ?_
    refine xs_bipush (v := 32) d146_20 (by decide) ?_
    rcases lk_if hf with ⟨hc5, hf⟩ | ⟨hc5, hf⟩
    · refine xs_icmp_ne (tgt := 38) d146_22 (by decide) (fun _ => ?_) (fun hn => absurd hc5 hn)
      refine xs_aload_n d146_25 rfl ?_
      refine xs_dup d146_26 rfl ?_
      refine xe_geti d146_27 ky146 fl169 fk12_8 ?_
      refine xs_iconst (v := 1) d146_30 (by decide) ?_
      refine xs_iadd d146_31 ?_
      obtain ⟨h6, eh6, hf⟩ := lk_let hf
      refine xe_puti d146_32 ky146 fl169 fk12_8 ft12_8 eh6 ?_
      refine xs_goto (tgt := 0) d146_35 (by decide) ?_
      exact K1 _ (Option.some.inj hf).symm
    · refine xs_icmp_ne (tgt := 38) d146_22 (by decide) (fun hp => absurd hp hc5) (fun _ => ?_)
      obtain ⟨x0, hf, ex0⟩ := lk_up hf
      exact f_M_see_b38_ok hD hf (fun u0 u1 e => K0 u0 u1 (ex0.trans (congrArg Sum.inr e)))
noncomputable def f_M_see_l0 (h : xH) : Option (Int32 × xH) :=
  whl (fun s => f_M_see_s0 s) h
theorem f_M_see_l0_ok {g : xG} {l : Launch} {d : Nat} {h : xH} {o : (Int32 × xH)} {R : Option xV} {H' : xH} (hD : 0 ≤ d) (hf : f_M_see_l0 h = some o) (K0 : ∀ (a : Int32) (h1 : xH), o = (a, h1) → R = some (xi a) ∧ H' = h1) : xEv g l d 146 0 [(0, xr 12 (some 0))] [] h R H' := by
  obtain ⟨n, hn⟩ := whl_iff.mp hf
  clear hf
  induction n generalizing h with
  | zero => cases hn
  | succ n ih =>
    obtain ⟨o2, hs, hn⟩ := lk_b (show (f_M_see_s0 h).bind (fun o => Sum.elim (itn _ n) some o) = some o from hn)
    exact f_M_see_s0_ok hD hs (fun u0 e => ih (by rw [e] at hn; exact hn)) (fun u0 u1 e => K0 u0 u1 (by rw [e] at hn; exact (Option.some.inj hn).symm))
noncomputable def f_M_see_e (h : xH) : Option (Int32 × xH) :=
  f_M_see_l0 h
set_option maxHeartbeats 4000000 in
set_option maxRecDepth 100000 in
theorem f_M_see_e_ok {g : xG} {l : Launch} {d : Nat} {h : xH} {o : (Int32 × xH)} {R : Option xV} {H' : xH} (hD : 0 ≤ d) (hf : f_M_see_e h = some o) (K0 : ∀ (a : Int32) (h1 : xH), o = (a, h1) → R = some (xi a) ∧ H' = h1) : xEv g l d 146 0 [(0, xr 12 (some 0))] [] h R H' := by
  unfold f_M_see_e at hf
  exact f_M_see_l0_ok hD hf K0
noncomputable def f_M_see (h : xH) : Option (Int32 × xH) := f_M_see_e h
theorem f_M_see_ok {g : xG} {l : Launch} {d : Nat} {h : xH} {r : Int32} {h1 : xH} (hD : 0 ≤ d) (hf : f_M_see h = some (r, h1)) : xC g l d 146 [xr 12 (some 0)] h (some (xi r)) h1 :=
  xC_of2 (by decide) mx146 (Nat.le_of_ble_eq_true rfl) (f_M_see_e_ok hD hf (fun _ _ e => by cases e; exact ⟨rfl, rfl⟩))
theorem d147_0 : decode (xcode 147) 0 = .ok (.iload_n 1, 1) := by decide +kernel
theorem d147_1 : decode (xcode 147) 1 = .ok (.aload_n 0, 1) := by decide +kernel
theorem d147_2 : decode (xcode 147) 2 = .ok (.getfield 86, 3) := by decide +kernel
theorem d147_5 : decode (xcode 147) 5 = .ok (.if_icmp .ge 29, 3) := by decide +kernel
theorem d147_8 : decode (xcode 147) 8 = .ok (.aload_n 0, 1) := by decide +kernel
theorem d147_9 : decode (xcode 147) 9 = .ok (.getfield 7, 3) := by decide +kernel
theorem d147_12 : decode (xcode 147) 12 = .ok (.iload_n 1, 1) := by decide +kernel
theorem d147_13 : decode (xcode 147) 13 = .ok (.baload, 1) := by decide +kernel
theorem d147_14 : decode (xcode 147) 14 = .ok (.bipush 48, 2) := by decide +kernel
theorem d147_16 : decode (xcode 147) 16 = .ok (.if_icmp .lt 18, 3) := by decide +kernel
theorem d147_19 : decode (xcode 147) 19 = .ok (.aload_n 0, 1) := by decide +kernel
theorem d147_20 : decode (xcode 147) 20 = .ok (.getfield 7, 3) := by decide +kernel
theorem d147_23 : decode (xcode 147) 23 = .ok (.iload_n 1, 1) := by decide +kernel
theorem d147_24 : decode (xcode 147) 24 = .ok (.baload, 1) := by decide +kernel
theorem d147_25 : decode (xcode 147) 25 = .ok (.bipush 57, 2) := by decide +kernel
theorem d147_27 : decode (xcode 147) 27 = .ok (.if_icmp .gt 7, 3) := by decide +kernel
theorem d147_30 : decode (xcode 147) 30 = .ok (.iconst 1, 1) := by decide +kernel
theorem d147_31 : decode (xcode 147) 31 = .ok (.goto 4, 3) := by decide +kernel
theorem d147_34 : decode (xcode 147) 34 = .ok (.iconst 0, 1) := by decide +kernel
theorem d147_35 : decode (xcode 147) 35 = .ok (.ireturn, 1) := by decide +kernel
noncomputable def f_M_isDigit_e (v1 : Int32) (h : xH) : Option Int32 :=
  if (h.1 12 1 0) ≤ v1 then (
  some ((0 : Int32))) else (
  if xib v1 400 then (
  if (h.2.2.2.1 47 0 (v1).toNatClampNeg) < (48 : Int32) then (
  some ((0 : Int32))) else (
  if xib v1 400 then (
  if (57 : Int32) < (h.2.2.2.1 47 0 (v1).toNatClampNeg) then (
  some ((0 : Int32))) else (
  some ((1 : Int32)))) else none)) else none)
set_option maxHeartbeats 4000000 in
set_option maxRecDepth 100000 in
theorem f_M_isDigit_e_ok {g : xG} {l : Launch} {d : Nat} {v1 : Int32} {h : xH} {o : Int32} {R : Option xV} (hD : 0 ≤ d) (hf : f_M_isDigit_e v1 h = some o) (K0 : ∀ (a : Int32), o = a → R = some (xi a)) : xEv g l d 147 0 [(0, xr 12 (some 0)), (1, xi v1)] [] h R h := by
  unfold f_M_isDigit_e at hf
  refine xs_iload_n d147_0 rfl ?_
  refine xs_aload_n d147_1 rfl ?_
  refine xe_geti d147_2 ky147 fl162 fk12_1 ?_
  rcases lk_if hf with ⟨hc1, hf⟩ | ⟨hc1, hf⟩
  · refine xs_icmp_ge (tgt := 34) d147_5 (by decide) (fun _ => ?_) (fun hn => absurd hc1 hn)
    refine xs_iconst (v := 0) d147_34 (by decide) ?_
    obtain eR := K0 _ (Option.some.inj hf).symm
    subst eR
    exact xe_zret d147_35 (Or.inl rfl) rt147
  · refine xs_icmp_ge (tgt := 34) d147_5 (by decide) (fun hp => absurd hp hc1) (fun _ => ?_)
    refine xs_aload_n d147_8 rfl ?_
    refine xe_getc (j := 0) d147_9 ky147 fl161 fk12_0 rfl ?_
    refine xs_iload_n d147_12 rfl ?_
    obtain ⟨hin2, hf⟩ := lk_g hf
    refine xe_bald d147_13 (by decide) ak47 hin2 ?_
    refine xs_bipush (v := 48) d147_14 (by decide) ?_
    rcases lk_if hf with ⟨hc3, hf⟩ | ⟨hc3, hf⟩
    · refine xs_icmp_lt (tgt := 34) d147_16 (by decide) (fun _ => ?_) (fun hn => absurd hc3 hn)
      refine xs_iconst (v := 0) d147_34 (by decide) ?_
      obtain eR := K0 _ (Option.some.inj hf).symm
      subst eR
      exact xe_zret d147_35 (Or.inl rfl) rt147
    · refine xs_icmp_lt (tgt := 34) d147_16 (by decide) (fun hp => absurd hp hc3) (fun _ => ?_)
      refine xs_aload_n d147_19 rfl ?_
      refine xe_getc (j := 0) d147_20 ky147 fl161 fk12_0 rfl ?_
      refine xs_iload_n d147_23 rfl ?_
      obtain ⟨hin4, hf⟩ := lk_g hf
      refine xe_bald d147_24 (by decide) ak47 hin4 ?_
      refine xs_bipush (v := 57) d147_25 (by decide) ?_
      rcases lk_if hf with ⟨hc5, hf⟩ | ⟨hc5, hf⟩
      · refine xs_icmp_gt (tgt := 34) d147_27 (by decide) (fun _ => ?_) (fun hn => absurd hc5 hn)
        refine xs_iconst (v := 0) d147_34 (by decide) ?_
        obtain eR := K0 _ (Option.some.inj hf).symm
        subst eR
        exact xe_zret d147_35 (Or.inl rfl) rt147
      · refine xs_icmp_gt (tgt := 34) d147_27 (by decide) (fun hp => absurd hp hc5) (fun _ => ?_)
        refine xs_iconst (v := 1) d147_30 (by decide) ?_
        refine xs_goto (tgt := 35) d147_31 (by decide) ?_
        obtain eR := K0 _ (Option.some.inj hf).symm
        subst eR
        exact xe_zret d147_35 (Or.inr rfl) rt147
noncomputable def f_M_isDigit (v1 : Int32) (h : xH) : Option Int32 := f_M_isDigit_e v1 h
theorem f_M_isDigit_ok {g : xG} {l : Launch} {d : Nat} {v1 : Int32} {h : xH} {r : Int32} (hD : 0 ≤ d) (hf : f_M_isDigit v1 h = some r) : xC g l d 147 [xr 12 (some 0), xi v1] h (some (xi r)) h :=
  xC_of2 (by decide) mx147 (Nat.le_of_ble_eq_true rfl) (f_M_isDigit_e_ok hD hf (fun _ e => by rw [e]))
theorem d148_0 : decode (xcode 148) 0 = .ok (.iload_n 1, 1) := by decide +kernel
theorem d148_1 : decode (xcode 148) 1 = .ok (.aload_n 0, 1) := by decide +kernel
theorem d148_2 : decode (xcode 148) 2 = .ok (.getfield 86, 3) := by decide +kernel
theorem d148_5 : decode (xcode 148) 5 = .ok (.if_icmp .ge 29, 3) := by decide +kernel
theorem d148_8 : decode (xcode 148) 8 = .ok (.aload_n 0, 1) := by decide +kernel
theorem d148_9 : decode (xcode 148) 9 = .ok (.getfield 7, 3) := by decide +kernel
theorem d148_12 : decode (xcode 148) 12 = .ok (.iload_n 1, 1) := by decide +kernel
theorem d148_13 : decode (xcode 148) 13 = .ok (.baload, 1) := by decide +kernel
theorem d148_14 : decode (xcode 148) 14 = .ok (.bipush 97, 2) := by decide +kernel
theorem d148_16 : decode (xcode 148) 16 = .ok (.if_icmp .lt 18, 3) := by decide +kernel
theorem d148_19 : decode (xcode 148) 19 = .ok (.aload_n 0, 1) := by decide +kernel
theorem d148_20 : decode (xcode 148) 20 = .ok (.getfield 7, 3) := by decide +kernel
theorem d148_23 : decode (xcode 148) 23 = .ok (.iload_n 1, 1) := by decide +kernel
theorem d148_24 : decode (xcode 148) 24 = .ok (.baload, 1) := by decide +kernel
theorem d148_25 : decode (xcode 148) 25 = .ok (.bipush 122, 2) := by decide +kernel
theorem d148_27 : decode (xcode 148) 27 = .ok (.if_icmp .gt 7, 3) := by decide +kernel
theorem d148_30 : decode (xcode 148) 30 = .ok (.iconst 1, 1) := by decide +kernel
theorem d148_31 : decode (xcode 148) 31 = .ok (.goto 4, 3) := by decide +kernel
theorem d148_34 : decode (xcode 148) 34 = .ok (.iconst 0, 1) := by decide +kernel
theorem d148_35 : decode (xcode 148) 35 = .ok (.ireturn, 1) := by decide +kernel
noncomputable def f_M_isLetter_e (v1 : Int32) (h : xH) : Option Int32 :=
  if (h.1 12 1 0) ≤ v1 then (
  some ((0 : Int32))) else (
  if xib v1 400 then (
  if (h.2.2.2.1 47 0 (v1).toNatClampNeg) < (97 : Int32) then (
  some ((0 : Int32))) else (
  if xib v1 400 then (
  if (122 : Int32) < (h.2.2.2.1 47 0 (v1).toNatClampNeg) then (
  some ((0 : Int32))) else (
  some ((1 : Int32)))) else none)) else none)
set_option maxHeartbeats 4000000 in
set_option maxRecDepth 100000 in
theorem f_M_isLetter_e_ok {g : xG} {l : Launch} {d : Nat} {v1 : Int32} {h : xH} {o : Int32} {R : Option xV} (hD : 0 ≤ d) (hf : f_M_isLetter_e v1 h = some o) (K0 : ∀ (a : Int32), o = a → R = some (xi a)) : xEv g l d 148 0 [(0, xr 12 (some 0)), (1, xi v1)] [] h R h := by
  unfold f_M_isLetter_e at hf
  refine xs_iload_n d148_0 rfl ?_
  refine xs_aload_n d148_1 rfl ?_
  refine xe_geti d148_2 ky148 fl162 fk12_1 ?_
  rcases lk_if hf with ⟨hc1, hf⟩ | ⟨hc1, hf⟩
  · refine xs_icmp_ge (tgt := 34) d148_5 (by decide) (fun _ => ?_) (fun hn => absurd hc1 hn)
    refine xs_iconst (v := 0) d148_34 (by decide) ?_
    obtain eR := K0 _ (Option.some.inj hf).symm
    subst eR
    exact xe_zret d148_35 (Or.inl rfl) rt148
  · refine xs_icmp_ge (tgt := 34) d148_5 (by decide) (fun hp => absurd hp hc1) (fun _ => ?_)
    refine xs_aload_n d148_8 rfl ?_
    refine xe_getc (j := 0) d148_9 ky148 fl161 fk12_0 rfl ?_
    refine xs_iload_n d148_12 rfl ?_
    obtain ⟨hin2, hf⟩ := lk_g hf
    refine xe_bald d148_13 (by decide) ak47 hin2 ?_
    refine xs_bipush (v := 97) d148_14 (by decide) ?_
    rcases lk_if hf with ⟨hc3, hf⟩ | ⟨hc3, hf⟩
    · refine xs_icmp_lt (tgt := 34) d148_16 (by decide) (fun _ => ?_) (fun hn => absurd hc3 hn)
      refine xs_iconst (v := 0) d148_34 (by decide) ?_
      obtain eR := K0 _ (Option.some.inj hf).symm
      subst eR
      exact xe_zret d148_35 (Or.inl rfl) rt148
    · refine xs_icmp_lt (tgt := 34) d148_16 (by decide) (fun hp => absurd hp hc3) (fun _ => ?_)
      refine xs_aload_n d148_19 rfl ?_
      refine xe_getc (j := 0) d148_20 ky148 fl161 fk12_0 rfl ?_
      refine xs_iload_n d148_23 rfl ?_
      obtain ⟨hin4, hf⟩ := lk_g hf
      refine xe_bald d148_24 (by decide) ak47 hin4 ?_
      refine xs_bipush (v := 122) d148_25 (by decide) ?_
      rcases lk_if hf with ⟨hc5, hf⟩ | ⟨hc5, hf⟩
      · refine xs_icmp_gt (tgt := 34) d148_27 (by decide) (fun _ => ?_) (fun hn => absurd hc5 hn)
        refine xs_iconst (v := 0) d148_34 (by decide) ?_
        obtain eR := K0 _ (Option.some.inj hf).symm
        subst eR
        exact xe_zret d148_35 (Or.inl rfl) rt148
      · refine xs_icmp_gt (tgt := 34) d148_27 (by decide) (fun hp => absurd hp hc5) (fun _ => ?_)
        refine xs_iconst (v := 1) d148_30 (by decide) ?_
        refine xs_goto (tgt := 35) d148_31 (by decide) ?_
        obtain eR := K0 _ (Option.some.inj hf).symm
        subst eR
        exact xe_zret d148_35 (Or.inr rfl) rt148
noncomputable def f_M_isLetter (v1 : Int32) (h : xH) : Option Int32 := f_M_isLetter_e v1 h
theorem f_M_isLetter_ok {g : xG} {l : Launch} {d : Nat} {v1 : Int32} {h : xH} {r : Int32} (hD : 0 ≤ d) (hf : f_M_isLetter v1 h = some r) : xC g l d 148 [xr 12 (some 0), xi v1] h (some (xi r)) h :=
  xC_of2 (by decide) mx148 (Nat.le_of_ble_eq_true rfl) (f_M_isLetter_e_ok hD hf (fun _ e => by rw [e]))
theorem d149_0 : decode (xcode 149) 0 = .ok (.aload_n 0, 1) := by decide +kernel
theorem d149_1 : decode (xcode 149) 1 = .ok (.invokevirtual 99, 3) := by decide +kernel
theorem d149_4 : decode (xcode 149) 4 = .ok (.pop, 1) := by decide +kernel
theorem d149_5 : decode (xcode 149) 5 = .ok (.lconst 0, 1) := by decide +kernel
theorem d149_6 : decode (xcode 149) 6 = .ok (.lstore_n 3, 1) := by decide +kernel
theorem d149_7 : decode (xcode 149) 7 = .ok (.iconst 0, 1) := by decide +kernel
theorem d149_8 : decode (xcode 149) 8 = .ok (.istore 5, 2) := by decide +kernel
theorem d149_10 : decode (xcode 149) 10 = .ok (.aload_n 0, 1) := by decide +kernel
theorem d149_11 : decode (xcode 149) 11 = .ok (.aload_n 0, 1) := by decide +kernel
theorem d149_12 : decode (xcode 149) 12 = .ok (.getfield 96, 3) := by decide +kernel
theorem d149_15 : decode (xcode 149) 15 = .ok (.iload 5, 2) := by decide +kernel
theorem d149_17 : decode (xcode 149) 17 = .ok (.iadd, 1) := by decide +kernel
theorem d149_18 : decode (xcode 149) 18 = .ok (.invokevirtual 103, 3) := by decide +kernel
theorem d149_21 : decode (xcode 149) 21 = .ok (.ifCond .eq 35, 3) := by decide +kernel
theorem d149_24 : decode (xcode 149) 24 = .ok (.iload 5, 2) := by decide +kernel
theorem d149_26 : decode (xcode 149) 26 = .ok (.bipush 8, 2) := by decide +kernel
theorem d149_28 : decode (xcode 149) 28 = .ok (.if_icmp .ge 22, 3) := by decide +kernel
theorem d149_31 : decode (xcode 149) 31 = .ok (.lload_n 3, 1) := by decide +kernel
theorem d149_32 : decode (xcode 149) 32 = .ok (.bipush 8, 2) := by decide +kernel
theorem d149_34 : decode (xcode 149) 34 = .ok (.lshl, 1) := by decide +kernel
theorem d149_35 : decode (xcode 149) 35 = .ok (.aload_n 0, 1) := by decide +kernel
theorem d149_36 : decode (xcode 149) 36 = .ok (.getfield 7, 3) := by decide +kernel
theorem d149_39 : decode (xcode 149) 39 = .ok (.aload_n 0, 1) := by decide +kernel
theorem d149_40 : decode (xcode 149) 40 = .ok (.getfield 96, 3) := by decide +kernel
theorem d149_43 : decode (xcode 149) 43 = .ok (.iload 5, 2) := by decide +kernel
theorem d149_45 : decode (xcode 149) 45 = .ok (.iadd, 1) := by decide +kernel
theorem d149_46 : decode (xcode 149) 46 = .ok (.baload, 1) := by decide +kernel
theorem d149_47 : decode (xcode 149) 47 = .ok (.i2l, 1) := by decide +kernel
theorem d149_48 : decode (xcode 149) 48 = .ok (.lor, 1) := by decide +kernel
theorem d149_49 : decode (xcode 149) 49 = .ok (.lstore_n 3, 1) := by decide +kernel
theorem d149_50 : decode (xcode 149) 50 = .ok (.iinc 5 1, 3) := by decide +kernel
theorem d149_53 : decode (xcode 149) 53 = .ok (.goto (-43), 3) := by decide +kernel
theorem d149_56 : decode (xcode 149) 56 = .ok (.iload 5, 2) := by decide +kernel
theorem d149_58 : decode (xcode 149) 58 = .ok (.ifCond .le 20, 3) := by decide +kernel
theorem d149_61 : decode (xcode 149) 61 = .ok (.iload 5, 2) := by decide +kernel
theorem d149_63 : decode (xcode 149) 63 = .ok (.bipush 8, 2) := by decide +kernel
theorem d149_65 : decode (xcode 149) 65 = .ok (.if_icmp .ge 13, 3) := by decide +kernel
theorem d149_68 : decode (xcode 149) 68 = .ok (.lload_n 3, 1) := by decide +kernel
theorem d149_69 : decode (xcode 149) 69 = .ok (.lload_n 1, 1) := by decide +kernel
theorem d149_70 : decode (xcode 149) 70 = .ok (.lcmp, 1) := by decide +kernel
theorem d149_71 : decode (xcode 149) 71 = .ok (.ifCond .ne 7, 3) := by decide +kernel
theorem d149_74 : decode (xcode 149) 74 = .ok (.iconst 1, 1) := by decide +kernel
theorem d149_75 : decode (xcode 149) 75 = .ok (.goto 4, 3) := by decide +kernel
theorem d149_78 : decode (xcode 149) 78 = .ok (.iconst 0, 1) := by decide +kernel
theorem d149_79 : decode (xcode 149) 79 = .ok (.ireturn, 1) := by decide +kernel
noncomputable def f_M_isWord_b56 (v1 : Int64) (v3 : Int64) (v5 : Int32) (h : xH) : Option (Int32 × xH) :=
  if v5 ≤ (0 : Int32) then (
  some (((0 : Int32), h))) else (
  if (8 : Int32) ≤ v5 then (
  some (((0 : Int32), h))) else (
  if (lg_cmp v3 v1) = (0 : Int32) then (
  some (((1 : Int32), h))) else (
  some (((0 : Int32), h)))))
set_option maxHeartbeats 4000000 in
set_option maxRecDepth 100000 in
theorem f_M_isWord_b56_ok {g : xG} {l : Launch} {d : Nat} {v1 : Int64} {v3 : Int64} {v5 : Int32} {h : xH} {o : (Int32 × xH)} {R : Option xV} {H' : xH} (hD : 1 ≤ d) (hf : f_M_isWord_b56 v1 v3 v5 h = some o) (K0 : ∀ (a : Int32) (h1 : xH), o = (a, h1) → R = some (xi a) ∧ H' = h1) : xEv g l d 149 56 [(1, xl v1), (3, xl v3), (5, xi v5)] [] h R H' := by
  unfold f_M_isWord_b56 at hf
  refine xs_iload d149_56 rfl ?_
  rcases lk_if hf with ⟨hc7, hf⟩ | ⟨hc7, hf⟩
  · refine xs_if_le (tgt := 78) d149_58 (by decide) (fun _ => ?_) (fun hn => absurd hc7 hn)
    refine xs_iconst (v := 0) d149_78 (by decide) ?_
    obtain ⟨eR, eH⟩ := K0 _ _ (Option.some.inj hf).symm
    subst eR; subst eH
    exact xe_zret d149_79 (Or.inl rfl) rt149
  · refine xs_if_le (tgt := 78) d149_58 (by decide) (fun hp => absurd hp hc7) (fun _ => ?_)
    refine xs_iload d149_61 rfl ?_
    refine xs_bipush (v := 8) d149_63 (by decide) ?_
    rcases lk_if hf with ⟨hc8, hf⟩ | ⟨hc8, hf⟩
    · refine xs_icmp_ge (tgt := 78) d149_65 (by decide) (fun _ => ?_) (fun hn => absurd hc8 hn)
      refine xs_iconst (v := 0) d149_78 (by decide) ?_
      obtain ⟨eR, eH⟩ := K0 _ _ (Option.some.inj hf).symm
      subst eR; subst eH
      exact xe_zret d149_79 (Or.inl rfl) rt149
    · refine xs_icmp_ge (tgt := 78) d149_65 (by decide) (fun hp => absurd hp hc8) (fun _ => ?_)
      refine xs_lload_n d149_68 rfl ?_
      refine xs_lload_n d149_69 rfl ?_
      refine xs_lcmp d149_70 ?_
      rcases lk_if hf with ⟨hc9, hf⟩ | ⟨hc9, hf⟩
      · refine xs_if_ne (tgt := 78) d149_71 (by decide) (fun _ => ?_) (fun hn => absurd hc9 hn)
        refine xs_iconst (v := 1) d149_74 (by decide) ?_
        refine xs_goto (tgt := 79) d149_75 (by decide) ?_
        obtain ⟨eR, eH⟩ := K0 _ _ (Option.some.inj hf).symm
        subst eR; subst eH
        exact xe_zret d149_79 (Or.inr rfl) rt149
      · refine xs_if_ne (tgt := 78) d149_71 (by decide) (fun hp => absurd hp hc9) (fun _ => ?_)
        refine xs_iconst (v := 0) d149_78 (by decide) ?_
        obtain ⟨eR, eH⟩ := K0 _ _ (Option.some.inj hf).symm
        subst eR; subst eH
        exact xe_zret d149_79 (Or.inl rfl) rt149
noncomputable def f_M_isWord_b50 (v1 : Int64) (v3 : Int64) (v5 : Int32) (h : xH) : Option ((Int64 × Int32) ⊕ (Int32 × xH)) :=
  xlet (v5 + (1 : Int32)) fun v5_11 =>
  some (Sum.inl (v3, v5_11))
set_option maxHeartbeats 4000000 in
set_option maxRecDepth 100000 in
theorem f_M_isWord_b50_ok {g : xG} {l : Launch} {d : Nat} {v1 : Int64} {v3 : Int64} {v5 : Int32} {h : xH} {o : ((Int64 × Int32) ⊕ (Int32 × xH))} {R : Option xV} {H' : xH} (hD : 1 ≤ d) (hf : f_M_isWord_b50 v1 v3 v5 h = some o) (K1 : ∀ (w3 : Int64) (w5 : Int32), o = Sum.inl (w3, w5) → xEv g l d 149 10 [(0, xr 12 (some 0)), (1, xl v1), (3, xl w3), (5, xi w5)] [] h R H') (K0 : ∀ (a : Int32) (h1 : xH), o = Sum.inr ((a, h1)) → R = some (xi a) ∧ H' = h1) : xEv g l d 149 50 [(0, xr 12 (some 0)), (1, xl v1), (3, xl v3), (5, xi v5)] [] h R H' := by
  unfold f_M_isWord_b50 at hf
  obtain ⟨v5_11, ev5_11, hf⟩ := lk_let hf
  refine xe_iinc (v := v5_11) (b := 1) (ls2 := [(0, xr 12 (some 0)), (1, xl v1), (3, xl v3), (5, xi v5_11)]) d149_50 mx149 (by decide) rfl (by decide) ev5_11 rfl ?_
  refine xs_goto (tgt := 10) d149_53 (by decide) ?_
  exact K1 _ _ (Option.some.inj hf).symm
noncomputable def f_M_isWord_s10 (v1 : Int64) (v3 : Int64) (v5 : Int32) (h : xH) : Option ((Int64 × Int32) ⊕ (Int32 × xH)) :=
  (f_M_isLetter ((h.1 12 8 0) + v5) h).bind fun r4 =>
  if r4 = (0 : Int32) then (
  xup (f_M_isWord_b56 v1 v3 v5 h)) else (
  if (8 : Int32) ≤ v5 then (
  f_M_isWord_b50 v1 v3 v5 h) else (
  if xib ((h.1 12 8 0) + v5) 400 then (
  xlet ((v3 <<< (((8 : Int32)).toInt64 &&& 63)) ||| ((h.2.2.2.1 47 0 ((h.1 12 8 0) + v5).toNatClampNeg).toInt64)) fun v3_13 =>
  f_M_isWord_b50 v1 v3_13 v5 h) else none))
set_option maxHeartbeats 4000000 in
set_option maxRecDepth 100000 in
theorem f_M_isWord_s10_ok {g : xG} {l : Launch} {d : Nat} {v1 : Int64} {v3 : Int64} {v5 : Int32} {h : xH} {o : ((Int64 × Int32) ⊕ (Int32 × xH))} {R : Option xV} {H' : xH} (hD : 1 ≤ d) (hf : f_M_isWord_s10 v1 v3 v5 h = some o) (K1 : ∀ (w3 : Int64) (w5 : Int32), o = Sum.inl (w3, w5) → xEv g l d 149 10 [(0, xr 12 (some 0)), (1, xl v1), (3, xl w3), (5, xi w5)] [] h R H') (K0 : ∀ (a : Int32) (h1 : xH), o = Sum.inr ((a, h1)) → R = some (xi a) ∧ H' = h1) : xEv g l d 149 10 [(0, xr 12 (some 0)), (1, xl v1), (3, xl v3), (5, xi v5)] [] h R H' := by
  unfold f_M_isWord_s10 at hf
  refine xs_aload_n d149_10 rfl ?_
  refine xs_aload_n d149_11 rfl ?_
  refine xe_geti d149_12 ky149 fl169 fk12_8 ?_
  refine xs_iload d149_15 rfl ?_
  refine xs_iadd d149_17 ?_
  obtain ⟨r4, hc5, hf⟩ := lk_b hf
  refine xe_callv1 (as := [xi ((h.1 12 8 0) + v5)]) (st := []) (h2 := h) (d2 := d - 1) d149_18 ky149 ml188 st148 (by decide) cn148 rfl na148 (Nat.le_of_ble_eq_true rfl) (by omega) (f_M_isLetter_ok (by omega) hc5) ?_
  rcases lk_if hf with ⟨hc6, hf⟩ | ⟨hc6, hf⟩
  · refine xs_if_eq (tgt := 56) d149_21 (by decide) (fun _ => ?_) (fun hn => absurd hc6 hn)
    refine xs_pick [1, 2, 3] rfl ?_
    obtain ⟨x0, hf, ex0⟩ := lk_up hf
    exact f_M_isWord_b56_ok hD hf (fun u0 u1 e => K0 u0 u1 (ex0.trans (congrArg Sum.inr e)))
  · refine xs_if_eq (tgt := 56) d149_21 (by decide) (fun hp => absurd hp hc6) (fun _ => ?_)
    refine xs_iload d149_24 rfl ?_
    refine xs_bipush (v := 8) d149_26 (by decide) ?_
    rcases lk_if hf with ⟨hc10, hf⟩ | ⟨hc10, hf⟩
    · refine xs_icmp_ge (tgt := 50) d149_28 (by decide) (fun _ => ?_) (fun hn => absurd hc10 hn)
      exact f_M_isWord_b50_ok hD hf K1 K0
    · refine xs_icmp_ge (tgt := 50) d149_28 (by decide) (fun hp => absurd hp hc10) (fun _ => ?_)
      refine xs_lload_n d149_31 rfl ?_
      refine xs_bipush (v := 8) d149_32 (by decide) ?_
      refine xs_lshl d149_34 ?_
      refine xs_aload_n d149_35 rfl ?_
      refine xe_getc (j := 0) d149_36 ky149 fl161 fk12_0 rfl ?_
      refine xs_aload_n d149_39 rfl ?_
      refine xe_geti d149_40 ky149 fl169 fk12_8 ?_
      refine xs_iload d149_43 rfl ?_
      refine xs_iadd d149_45 ?_
      obtain ⟨hin12, hf⟩ := lk_g hf
      refine xe_bald d149_46 (by decide) ak47 hin12 ?_
      refine xs_i2l d149_47 ?_
      refine xs_lor d149_48 ?_
      obtain ⟨v3_13, ev3_13, hf⟩ := lk_let hf
      refine xe_lstore_n (v := v3_13) (ls2 := [(0, xr 12 (some 0)), (1, xl v1), (3, xl v3_13), (5, xi v5)]) d149_49 mx149 (by decide) ev3_13 rfl ?_
      exact f_M_isWord_b50_ok hD hf K1 K0
noncomputable def f_M_isWord_l10 (v1 : Int64) (v3 : Int64) (v5 : Int32) (h : xH) : Option (Int32 × xH) :=
  whl (fun s => f_M_isWord_s10 v1 s.1 s.2 h) (v3, v5)
theorem f_M_isWord_l10_ok {g : xG} {l : Launch} {d : Nat} {v1 : Int64} {v3 : Int64} {v5 : Int32} {h : xH} {o : (Int32 × xH)} {R : Option xV} {H' : xH} (hD : 1 ≤ d) (hf : f_M_isWord_l10 v1 v3 v5 h = some o) (K0 : ∀ (a : Int32) (h1 : xH), o = (a, h1) → R = some (xi a) ∧ H' = h1) : xEv g l d 149 10 [(0, xr 12 (some 0)), (1, xl v1), (3, xl v3), (5, xi v5)] [] h R H' := by
  obtain ⟨n, hn⟩ := whl_iff.mp hf
  clear hf
  induction n generalizing v3 v5 with
  | zero => cases hn
  | succ n ih =>
    obtain ⟨o2, hs, hn⟩ := lk_b (show (f_M_isWord_s10 v1 v3 v5 h).bind (fun o => Sum.elim (itn _ n) some o) = some o from hn)
    exact f_M_isWord_s10_ok hD hs (fun u0 u1 e => ih (by rw [e] at hn; exact hn)) (fun u0 u1 e => K0 u0 u1 (by rw [e] at hn; exact (Option.some.inj hn).symm))
noncomputable def f_M_isWord_e (v1 : Int64) (h : xH) : Option (Int32 × xH) :=
  (f_M_see h).bind fun q3 =>
  f_M_isWord_l10 v1 (0 : Int64) (0 : Int32) q3.2
set_option maxHeartbeats 4000000 in
set_option maxRecDepth 100000 in
theorem f_M_isWord_e_ok {g : xG} {l : Launch} {d : Nat} {v1 : Int64} {h : xH} {o : (Int32 × xH)} {R : Option xV} {H' : xH} (hD : 1 ≤ d) (hf : f_M_isWord_e v1 h = some o) (K0 : ∀ (a : Int32) (h1 : xH), o = (a, h1) → R = some (xi a) ∧ H' = h1) : xEv g l d 149 0 [(0, xr 12 (some 0)), (1, xl v1)] [] h R H' := by
  unfold f_M_isWord_e at hf
  refine xs_aload_n d149_0 rfl ?_
  obtain ⟨q3, hc2, hf⟩ := lk_b hf
  refine xe_callv1 (as := []) (st := []) (h2 := q3.2) (d2 := d - 1) d149_1 ky149 ml185 st146 (by decide) cn146 rfl na146 (Nat.le_of_ble_eq_true rfl) (by omega) (f_M_see_ok (by omega) hc2) ?_
  refine xs_pop d149_4 rfl ?_
  refine xs_lconst (v := 0) d149_5 (by decide) ?_
  refine xe_lstore_n (v := (0 : Int64)) (ls2 := [(0, xr 12 (some 0)), (1, xl v1), (3, xl (0 : Int64))]) d149_6 mx149 (by decide) rfl rfl ?_
  refine xs_iconst (v := 0) d149_7 (by decide) ?_
  refine xe_istore (v := (0 : Int32)) (ls2 := [(0, xr 12 (some 0)), (1, xl v1), (3, xl (0 : Int64)), (5, xi (0 : Int32))]) d149_8 mx149 (by decide) rfl rfl ?_
  exact f_M_isWord_l10_ok hD hf K0
noncomputable def f_M_isWord (v1 : Int64) (h : xH) : Option (Int32 × xH) := f_M_isWord_e v1 h
theorem f_M_isWord_ok {g : xG} {l : Launch} {d : Nat} {v1 : Int64} {h : xH} {r : Int32} {h1 : xH} (hD : 1 ≤ d) (hf : f_M_isWord v1 h = some (r, h1)) : xC g l d 149 [xr 12 (some 0), xl v1] h (some (xi r)) h1 :=
  xC_of2 (by decide) mx149 (Nat.le_of_ble_eq_true rfl) (f_M_isWord_e_ok hD hf (fun _ _ e => by cases e; exact ⟨rfl, rfl⟩))
theorem d150_0 : decode (xcode 150) 0 = .ok (.aload_n 0, 1) := by decide +kernel
theorem d150_1 : decode (xcode 150) 1 = .ok (.aload_n 0, 1) := by decide +kernel
theorem d150_2 : decode (xcode 150) 2 = .ok (.getfield 96, 3) := by decide +kernel
theorem d150_5 : decode (xcode 150) 5 = .ok (.invokevirtual 103, 3) := by decide +kernel
theorem d150_8 : decode (xcode 150) 8 = .ok (.ifCond .eq 16, 3) := by decide +kernel
theorem d150_11 : decode (xcode 150) 11 = .ok (.aload_n 0, 1) := by decide +kernel
theorem d150_12 : decode (xcode 150) 12 = .ok (.dup, 1) := by decide +kernel
theorem d150_13 : decode (xcode 150) 13 = .ok (.getfield 96, 3) := by decide +kernel
theorem d150_16 : decode (xcode 150) 16 = .ok (.iconst 1, 1) := by decide +kernel
theorem d150_17 : decode (xcode 150) 17 = .ok (.iadd, 1) := by decide +kernel
theorem d150_18 : decode (xcode 150) 18 = .ok (.putfield 96, 3) := by decide +kernel
theorem d150_21 : decode (xcode 150) 21 = .ok (.goto (-21), 3) := by decide +kernel
theorem d150_24 : decode (xcode 150) 24 = .ok (.return_, 1) := by decide +kernel
noncomputable def f_M_passWord_s0 (h : xH) : Option ((xH) ⊕ xH) :=
  (f_M_isLetter (h.1 12 8 0) h).bind fun r1 =>
  if r1 = (0 : Int32) then (
  some (Sum.inr (h))) else (
  xlet (xsI h 12 8 0 ((h.1 12 8 0) + (1 : Int32))) fun h4 =>
  some (Sum.inl h4))
set_option maxHeartbeats 4000000 in
set_option maxRecDepth 100000 in
theorem f_M_passWord_s0_ok {g : xG} {l : Launch} {d : Nat} {h : xH} {o : ((xH) ⊕ xH)} {R : Option xV} {H' : xH} (hD : 1 ≤ d) (hf : f_M_passWord_s0 h = some o) (K1 : ∀ (h1 : xH), o = Sum.inl h1 → xEv g l d 150 0 [(0, xr 12 (some 0))] [] h1 R H') (K0 : ∀ (h1 : xH), o = Sum.inr (h1) → R = none ∧ H' = h1) : xEv g l d 150 0 [(0, xr 12 (some 0))] [] h R H' := by
  unfold f_M_passWord_s0 at hf
  refine xs_aload_n d150_0 rfl ?_
  refine xs_aload_n d150_1 rfl ?_
  refine xe_geti d150_2 ky150 fl169 fk12_8 ?_
  obtain ⟨r1, hc2, hf⟩ := lk_b hf
  refine xe_callv1 (as := [xi (h.1 12 8 0)]) (st := []) (h2 := h) (d2 := d - 1) d150_5 ky150 ml188 st148 (by decide) cn148 rfl na148 (Nat.le_of_ble_eq_true rfl) (by omega) (f_M_isLetter_ok (by omega) hc2) ?_
  rcases lk_if hf with ⟨hc3, hf⟩ | ⟨hc3, hf⟩
  · refine xs_if_eq (tgt := 24) d150_8 (by decide) (fun _ => ?_) (fun hn => absurd hc3 hn)
    obtain ⟨eR, eH⟩ := K0 _ (Option.some.inj hf).symm
    subst eR; subst eH
    exact xs_vret d150_24 rt150
  · refine xs_if_eq (tgt := 24) d150_8 (by decide) (fun hp => absurd hp hc3) (fun _ => ?_)
    refine xs_aload_n d150_11 rfl ?_
    refine xs_dup d150_12 rfl ?_
    refine xe_geti d150_13 ky150 fl169 fk12_8 ?_
    refine xs_iconst (v := 1) d150_16 (by decide) ?_
    refine xs_iadd d150_17 ?_
    obtain ⟨h4, eh4, hf⟩ := lk_let hf
    refine xe_puti d150_18 ky150 fl169 fk12_8 ft12_8 eh4 ?_
    refine xs_goto (tgt := 0) d150_21 (by decide) ?_
    exact K1 _ (Option.some.inj hf).symm
noncomputable def f_M_passWord_l0 (h : xH) : Option xH :=
  whl (fun s => f_M_passWord_s0 s) h
theorem f_M_passWord_l0_ok {g : xG} {l : Launch} {d : Nat} {h : xH} {o : xH} {R : Option xV} {H' : xH} (hD : 1 ≤ d) (hf : f_M_passWord_l0 h = some o) (K0 : ∀ (h1 : xH), o = h1 → R = none ∧ H' = h1) : xEv g l d 150 0 [(0, xr 12 (some 0))] [] h R H' := by
  obtain ⟨n, hn⟩ := whl_iff.mp hf
  clear hf
  induction n generalizing h with
  | zero => cases hn
  | succ n ih =>
    obtain ⟨o2, hs, hn⟩ := lk_b (show (f_M_passWord_s0 h).bind (fun o => Sum.elim (itn _ n) some o) = some o from hn)
    exact f_M_passWord_s0_ok hD hs (fun u0 e => ih (by rw [e] at hn; exact hn)) (fun u0 e => K0 u0 (by rw [e] at hn; exact (Option.some.inj hn).symm))
noncomputable def f_M_passWord_e (h : xH) : Option xH :=
  f_M_passWord_l0 h
set_option maxHeartbeats 4000000 in
set_option maxRecDepth 100000 in
theorem f_M_passWord_e_ok {g : xG} {l : Launch} {d : Nat} {h : xH} {o : xH} {R : Option xV} {H' : xH} (hD : 1 ≤ d) (hf : f_M_passWord_e h = some o) (K0 : ∀ (h1 : xH), o = h1 → R = none ∧ H' = h1) : xEv g l d 150 0 [(0, xr 12 (some 0))] [] h R H' := by
  unfold f_M_passWord_e at hf
  exact f_M_passWord_l0_ok hD hf K0
noncomputable def f_M_passWord (h : xH) : Option xH := f_M_passWord_e h
theorem f_M_passWord_ok {g : xG} {l : Launch} {d : Nat} {h : xH} {h1 : xH} (hD : 1 ≤ d) (hf : f_M_passWord h = some h1) : xC g l d 150 [xr 12 (some 0)] h none h1 :=
  xC_of2 (by decide) mx150 (Nat.le_of_ble_eq_true rfl) (f_M_passWord_e_ok hD hf (fun _ e => ⟨rfl, e⟩))
theorem d151_0 : decode (xcode 151) 0 = .ok (.aload_n 0, 1) := by decide +kernel
theorem d151_1 : decode (xcode 151) 1 = .ok (.lload_n 1, 1) := by decide +kernel
theorem d151_2 : decode (xcode 151) 2 = .ok (.invokevirtual 107, 3) := by decide +kernel
theorem d151_5 : decode (xcode 151) 5 = .ok (.ifCond .ne 5, 3) := by decide +kernel
theorem d151_8 : decode (xcode 151) 8 = .ok (.iconst 0, 1) := by decide +kernel
theorem d151_9 : decode (xcode 151) 9 = .ok (.ireturn, 1) := by decide +kernel
theorem d151_10 : decode (xcode 151) 10 = .ok (.aload_n 0, 1) := by decide +kernel
theorem d151_11 : decode (xcode 151) 11 = .ok (.invokevirtual 111, 3) := by decide +kernel
theorem d151_14 : decode (xcode 151) 14 = .ok (.iconst 1, 1) := by decide +kernel
theorem d151_15 : decode (xcode 151) 15 = .ok (.ireturn, 1) := by decide +kernel
noncomputable def f_M_takesWord_e (v1 : Int64) (h : xH) : Option (Int32 × xH) :=
  (f_M_isWord v1 h).bind fun q3 =>
  if q3.1 = (0 : Int32) then (
  some (((0 : Int32), q3.2))) else (
  (f_M_passWord q3.2).bind fun h7 =>
  some (((1 : Int32), h7)))
set_option maxHeartbeats 4000000 in
set_option maxRecDepth 100000 in
theorem f_M_takesWord_e_ok {g : xG} {l : Launch} {d : Nat} {v1 : Int64} {h : xH} {o : (Int32 × xH)} {R : Option xV} {H' : xH} (hD : 2 ≤ d) (hf : f_M_takesWord_e v1 h = some o) (K0 : ∀ (a : Int32) (h1 : xH), o = (a, h1) → R = some (xi a) ∧ H' = h1) : xEv g l d 151 0 [(0, xr 12 (some 0)), (1, xl v1)] [] h R H' := by
  unfold f_M_takesWord_e at hf
  refine xs_aload_n d151_0 rfl ?_
  refine xs_lload_n d151_1 rfl ?_
  obtain ⟨q3, hc2, hf⟩ := lk_b hf
  refine xe_callv1 (as := [xl v1]) (st := []) (h2 := q3.2) (d2 := d - 1) d151_2 ky151 ml187 st149 (by decide) cn149 rfl na149 (Nat.le_of_ble_eq_true rfl) (by omega) (f_M_isWord_ok (by omega) hc2) ?_
  rcases lk_if hf with ⟨hc4, hf⟩ | ⟨hc4, hf⟩
  · refine xs_if_ne (tgt := 10) d151_5 (by decide) (fun _ => ?_) (fun hn => absurd hc4 hn)
    refine xs_iconst (v := 0) d151_8 (by decide) ?_
    obtain ⟨eR, eH⟩ := K0 _ _ (Option.some.inj hf).symm
    subst eR; subst eH
    exact xe_zret d151_9 (Or.inl rfl) rt151
  · refine xs_if_ne (tgt := 10) d151_5 (by decide) (fun hp => absurd hp hc4) (fun _ => ?_)
    refine xs_aload_n d151_10 rfl ?_
    obtain ⟨h7, hc6, hf⟩ := lk_b hf
    refine xe_callv0 (as := []) (st := []) (h2 := h7) (d2 := d - 1) d151_11 ky151 ml192 st150 (by decide) cn150 rfl na150 (Nat.le_of_ble_eq_true rfl) (by omega) (f_M_passWord_ok (by omega) hc6) ?_
    refine xs_iconst (v := 1) d151_14 (by decide) ?_
    obtain ⟨eR, eH⟩ := K0 _ _ (Option.some.inj hf).symm
    subst eR; subst eH
    exact xe_zret d151_15 (Or.inr rfl) rt151
noncomputable def f_M_takesWord (v1 : Int64) (h : xH) : Option (Int32 × xH) := f_M_takesWord_e v1 h
theorem f_M_takesWord_ok {g : xG} {l : Launch} {d : Nat} {v1 : Int64} {h : xH} {r : Int32} {h1 : xH} (hD : 2 ≤ d) (hf : f_M_takesWord v1 h = some (r, h1)) : xC g l d 151 [xr 12 (some 0), xl v1] h (some (xi r)) h1 :=
  xC_of2 (by decide) mx151 (Nat.le_of_ble_eq_true rfl) (f_M_takesWord_e_ok hD hf (fun _ _ e => by cases e; exact ⟨rfl, rfl⟩))
theorem d152_0 : decode (xcode 152) 0 = .ok (.aload_n 0, 1) := by decide +kernel
theorem d152_1 : decode (xcode 152) 1 = .ok (.invokevirtual 99, 3) := by decide +kernel
theorem d152_4 : decode (xcode 152) 4 = .ok (.pop, 1) := by decide +kernel
theorem d152_5 : decode (xcode 152) 5 = .ok (.aload_n 0, 1) := by decide +kernel
theorem d152_6 : decode (xcode 152) 6 = .ok (.aload_n 0, 1) := by decide +kernel
theorem d152_7 : decode (xcode 152) 7 = .ok (.getfield 96, 3) := by decide +kernel
theorem d152_10 : decode (xcode 152) 10 = .ok (.invokevirtual 114, 3) := by decide +kernel
theorem d152_13 : decode (xcode 152) 13 = .ok (.ifCond .ne 13, 3) := by decide +kernel
theorem d152_16 : decode (xcode 152) 16 = .ok (.aload_n 0, 1) := by decide +kernel
theorem d152_17 : decode (xcode 152) 17 = .ok (.iconst 0, 1) := by decide +kernel
theorem d152_18 : decode (xcode 152) 18 = .ok (.aload_n 0, 1) := by decide +kernel
theorem d152_19 : decode (xcode 152) 19 = .ok (.getfield 96, 3) := by decide +kernel
theorem d152_22 : decode (xcode 152) 22 = .ok (.invokevirtual 117, 3) := by decide +kernel
theorem d152_25 : decode (xcode 152) 25 = .ok (.ireturn, 1) := by decide +kernel
theorem d152_26 : decode (xcode 152) 26 = .ok (.aload_n 0, 1) := by decide +kernel
theorem d152_27 : decode (xcode 152) 27 = .ok (.getfield 96, 3) := by decide +kernel
theorem d152_30 : decode (xcode 152) 30 = .ok (.istore_n 3, 1) := by decide +kernel
theorem d152_31 : decode (xcode 152) 31 = .ok (.iconst 0, 1) := by decide +kernel
theorem d152_32 : decode (xcode 152) 32 = .ok (.istore 4, 2) := by decide +kernel
theorem d152_34 : decode (xcode 152) 34 = .ok (.aload_n 0, 1) := by decide +kernel
theorem d152_35 : decode (xcode 152) 35 = .ok (.aload_n 0, 1) := by decide +kernel
theorem d152_36 : decode (xcode 152) 36 = .ok (.getfield 96, 3) := by decide +kernel
theorem d152_39 : decode (xcode 152) 39 = .ok (.invokevirtual 114, 3) := by decide +kernel
theorem d152_42 : decode (xcode 152) 42 = .ok (.ifCond .eq 46, 3) := by decide +kernel
theorem d152_45 : decode (xcode 152) 45 = .ok (.aload_n 0, 1) := by decide +kernel
theorem d152_46 : decode (xcode 152) 46 = .ok (.getfield 96, 3) := by decide +kernel
theorem d152_49 : decode (xcode 152) 49 = .ok (.iload_n 3, 1) := by decide +kernel
theorem d152_50 : decode (xcode 152) 50 = .ok (.isub, 1) := by decide +kernel
theorem d152_51 : decode (xcode 152) 51 = .ok (.iconst 5, 1) := by decide +kernel
theorem d152_52 : decode (xcode 152) 52 = .ok (.if_icmp .ge 23, 3) := by decide +kernel
theorem d152_55 : decode (xcode 152) 55 = .ok (.bipush 10, 2) := by decide +kernel
theorem d152_57 : decode (xcode 152) 57 = .ok (.iload 4, 2) := by decide +kernel
theorem d152_59 : decode (xcode 152) 59 = .ok (.imul, 1) := by decide +kernel
theorem d152_60 : decode (xcode 152) 60 = .ok (.aload_n 0, 1) := by decide +kernel
theorem d152_61 : decode (xcode 152) 61 = .ok (.getfield 7, 3) := by decide +kernel
theorem d152_64 : decode (xcode 152) 64 = .ok (.aload_n 0, 1) := by decide +kernel
theorem d152_65 : decode (xcode 152) 65 = .ok (.getfield 96, 3) := by decide +kernel
theorem d152_68 : decode (xcode 152) 68 = .ok (.baload, 1) := by decide +kernel
theorem d152_69 : decode (xcode 152) 69 = .ok (.iadd, 1) := by decide +kernel
theorem d152_70 : decode (xcode 152) 70 = .ok (.bipush 48, 2) := by decide +kernel
theorem d152_72 : decode (xcode 152) 72 = .ok (.isub, 1) := by decide +kernel
theorem d152_73 : decode (xcode 152) 73 = .ok (.istore 4, 2) := by decide +kernel
theorem d152_75 : decode (xcode 152) 75 = .ok (.aload_n 0, 1) := by decide +kernel
theorem d152_76 : decode (xcode 152) 76 = .ok (.dup, 1) := by decide +kernel
theorem d152_77 : decode (xcode 152) 77 = .ok (.getfield 96, 3) := by decide +kernel
theorem d152_80 : decode (xcode 152) 80 = .ok (.iconst 1, 1) := by decide +kernel
theorem d152_81 : decode (xcode 152) 81 = .ok (.iadd, 1) := by decide +kernel
theorem d152_82 : decode (xcode 152) 82 = .ok (.putfield 96, 3) := by decide +kernel
theorem d152_85 : decode (xcode 152) 85 = .ok (.goto (-51), 3) := by decide +kernel
theorem d152_88 : decode (xcode 152) 88 = .ok (.aload_n 0, 1) := by decide +kernel
theorem d152_89 : decode (xcode 152) 89 = .ok (.iload 4, 2) := by decide +kernel
theorem d152_91 : decode (xcode 152) 91 = .ok (.putfield 121, 3) := by decide +kernel
theorem d152_94 : decode (xcode 152) 94 = .ok (.aload_n 0, 1) := by decide +kernel
theorem d152_95 : decode (xcode 152) 95 = .ok (.getfield 96, 3) := by decide +kernel
theorem d152_98 : decode (xcode 152) 98 = .ok (.iload_n 3, 1) := by decide +kernel
theorem d152_99 : decode (xcode 152) 99 = .ok (.isub, 1) := by decide +kernel
theorem d152_100 : decode (xcode 152) 100 = .ok (.iconst 5, 1) := by decide +kernel
theorem d152_101 : decode (xcode 152) 101 = .ok (.if_icmp .gt 16, 3) := by decide +kernel
theorem d152_104 : decode (xcode 152) 104 = .ok (.iload 4, 2) := by decide +kernel
theorem d152_106 : decode (xcode 152) 106 = .ok (.i2l, 1) := by decide +kernel
theorem d152_107 : decode (xcode 152) 107 = .ok (.iload_n 1, 1) := by decide +kernel
theorem d152_108 : decode (xcode 152) 108 = .ok (.i2l, 1) := by decide +kernel
theorem d152_109 : decode (xcode 152) 109 = .ok (.iload_n 2, 1) := by decide +kernel
theorem d152_110 : decode (xcode 152) 110 = .ok (.i2l, 1) := by decide +kernel
theorem d152_111 : decode (xcode 152) 111 = .ok (.invokestatic 124, 3) := by decide +kernel
theorem d152_114 : decode (xcode 152) 114 = .ok (.ifCond .ne 12, 3) := by decide +kernel
theorem d152_117 : decode (xcode 152) 117 = .ok (.aload_n 0, 1) := by decide +kernel
theorem d152_118 : decode (xcode 152) 118 = .ok (.iconst 1, 1) := by decide +kernel
theorem d152_119 : decode (xcode 152) 119 = .ok (.iload_n 3, 1) := by decide +kernel
theorem d152_120 : decode (xcode 152) 120 = .ok (.invokevirtual 117, 3) := by decide +kernel
theorem d152_123 : decode (xcode 152) 123 = .ok (.ifCond .eq 7, 3) := by decide +kernel
theorem d152_126 : decode (xcode 152) 126 = .ok (.iconst 1, 1) := by decide +kernel
theorem d152_127 : decode (xcode 152) 127 = .ok (.goto 4, 3) := by decide +kernel
theorem d152_130 : decode (xcode 152) 130 = .ok (.iconst 0, 1) := by decide +kernel
theorem d152_131 : decode (xcode 152) 131 = .ok (.ireturn, 1) := by decide +kernel
noncomputable def f_M_numberHere_b117 (v3 : Int32) (h : xH) : Option (Int32 × xH) :=
  (f_M_fails (1 : Int32) v3 h).bind fun q19 =>
  if q19.1 = (0 : Int32) then (
  some (((0 : Int32), q19.2))) else (
  some (((1 : Int32), q19.2)))
set_option maxHeartbeats 4000000 in
set_option maxRecDepth 100000 in
theorem f_M_numberHere_b117_ok {g : xG} {l : Launch} {d : Nat} {v3 : Int32} {h : xH} {o : (Int32 × xH)} {R : Option xV} {H' : xH} (hD : 1 ≤ d) (hf : f_M_numberHere_b117 v3 h = some o) (K0 : ∀ (a : Int32) (h1 : xH), o = (a, h1) → R = some (xi a) ∧ H' = h1) : xEv g l d 152 117 [(0, xr 12 (some 0)), (3, xi v3)] [] h R H' := by
  unfold f_M_numberHere_b117 at hf
  refine xs_aload_n d152_117 rfl ?_
  refine xs_iconst (v := 1) d152_118 (by decide) ?_
  refine xs_iload_n d152_119 rfl ?_
  obtain ⟨q19, hc18, hf⟩ := lk_b hf
  refine xe_callv1 (as := [xi (1 : Int32), xi v3]) (st := []) (h2 := q19.2) (d2 := d - 1) d152_120 ky152 ml189 st145 (by decide) cn145 rfl na145 (Nat.le_of_ble_eq_true rfl) (by omega) (f_M_fails_ok (by omega) hc18) ?_
  rcases lk_if hf with ⟨hc20, hf⟩ | ⟨hc20, hf⟩
  · refine xs_if_eq (tgt := 130) d152_123 (by decide) (fun _ => ?_) (fun hn => absurd hc20 hn)
    refine xs_iconst (v := 0) d152_130 (by decide) ?_
    obtain ⟨eR, eH⟩ := K0 _ _ (Option.some.inj hf).symm
    subst eR; subst eH
    exact xe_zret d152_131 (Or.inl rfl) rt152
  · refine xs_if_eq (tgt := 130) d152_123 (by decide) (fun hp => absurd hp hc20) (fun _ => ?_)
    refine xs_iconst (v := 1) d152_126 (by decide) ?_
    refine xs_goto (tgt := 131) d152_127 (by decide) ?_
    obtain ⟨eR, eH⟩ := K0 _ _ (Option.some.inj hf).symm
    subst eR; subst eH
    exact xe_zret d152_131 (Or.inr rfl) rt152
noncomputable def f_M_numberHere_b88 (v1 : Int32) (v2 : Int32) (v3 : Int32) (v4 : Int32) (h : xH) : Option (Int32 × xH) :=
  xlet (xsI h 12 10 0 v4) fun h15 =>
  if (5 : Int32) < ((h15.1 12 8 0) - v3) then (
  f_M_numberHere_b117 v3 h15) else (
  (f_M_in ((v4).toInt64) ((v1).toInt64) ((v2).toInt64) h15).bind fun r21 =>
  if r21 = (0 : Int32) then (
  f_M_numberHere_b117 v3 h15) else (
  some (((1 : Int32), h15))))
set_option maxHeartbeats 4000000 in
set_option maxRecDepth 100000 in
theorem f_M_numberHere_b88_ok {g : xG} {l : Launch} {d : Nat} {v1 : Int32} {v2 : Int32} {v3 : Int32} {v4 : Int32} {h : xH} {o : (Int32 × xH)} {R : Option xV} {H' : xH} (hD : 1 ≤ d) (hf : f_M_numberHere_b88 v1 v2 v3 v4 h = some o) (K0 : ∀ (a : Int32) (h1 : xH), o = (a, h1) → R = some (xi a) ∧ H' = h1) : xEv g l d 152 88 [(0, xr 12 (some 0)), (1, xi v1), (2, xi v2), (3, xi v3), (4, xi v4)] [] h R H' := by
  unfold f_M_numberHere_b88 at hf
  refine xs_aload_n d152_88 rfl ?_
  refine xs_iload d152_89 rfl ?_
  obtain ⟨h15, eh15, hf⟩ := lk_let hf
  refine xe_puti d152_91 ky152 fl171 fk12_10 ft12_10 eh15 ?_
  refine xs_aload_n d152_94 rfl ?_
  refine xe_geti d152_95 ky152 fl169 fk12_8 ?_
  refine xs_iload_n d152_98 rfl ?_
  refine xs_isub d152_99 ?_
  refine xs_iconst (v := 5) d152_100 (by decide) ?_
  rcases lk_if hf with ⟨hc16, hf⟩ | ⟨hc16, hf⟩
  · refine xs_icmp_gt (tgt := 117) d152_101 (by decide) (fun _ => ?_) (fun hn => absurd hc16 hn)
    refine xs_pick [0, 3] rfl ?_
    exact f_M_numberHere_b117_ok hD hf K0
  · refine xs_icmp_gt (tgt := 117) d152_101 (by decide) (fun hp => absurd hp hc16) (fun _ => ?_)
    refine xs_iload d152_104 rfl ?_
    refine xs_i2l d152_106 ?_
    refine xs_iload_n d152_107 rfl ?_
    refine xs_i2l d152_108 ?_
    refine xs_iload_n d152_109 rfl ?_
    refine xs_i2l d152_110 ?_
    obtain ⟨r21, hc22, hf⟩ := lk_b hf
    refine xe_calls1 (as := [xl ((v4).toInt64), xl ((v1).toInt64), xl ((v2).toInt64)]) (st := []) (h2 := h15) (d2 := d - 1) d152_111 ky152 ml196 st139 rfl na139 (Nat.le_of_ble_eq_true rfl) (by omega) (f_M_in_ok (by omega) hc22) ?_
    rcases lk_if hf with ⟨hc23, hf⟩ | ⟨hc23, hf⟩
    · refine xs_if_ne (tgt := 126) d152_114 (by decide) (fun _ => ?_) (fun hn => absurd hc23 hn)
      refine xs_pick [0, 3] rfl ?_
      exact f_M_numberHere_b117_ok hD hf K0
    · refine xs_if_ne (tgt := 126) d152_114 (by decide) (fun hp => absurd hp hc23) (fun _ => ?_)
      refine xs_iconst (v := 1) d152_126 (by decide) ?_
      refine xs_goto (tgt := 131) d152_127 (by decide) ?_
      obtain ⟨eR, eH⟩ := K0 _ _ (Option.some.inj hf).symm
      subst eR; subst eH
      exact xe_zret d152_131 (Or.inr rfl) rt152
noncomputable def f_M_numberHere_b75 (v1 : Int32) (v2 : Int32) (v3 : Int32) (v4 : Int32) (h : xH) : Option ((Int32 × xH) ⊕ (Int32 × xH)) :=
  xlet (xsI h 12 8 0 ((h.1 12 8 0) + (1 : Int32))) fun h25 =>
  some (Sum.inl (v4, h25))
set_option maxHeartbeats 4000000 in
set_option maxRecDepth 100000 in
theorem f_M_numberHere_b75_ok {g : xG} {l : Launch} {d : Nat} {v1 : Int32} {v2 : Int32} {v3 : Int32} {v4 : Int32} {h : xH} {o : ((Int32 × xH) ⊕ (Int32 × xH))} {R : Option xV} {H' : xH} (hD : 1 ≤ d) (hf : f_M_numberHere_b75 v1 v2 v3 v4 h = some o) (K1 : ∀ (w4 : Int32) (h1 : xH), o = Sum.inl (w4, h1) → xEv g l d 152 34 [(0, xr 12 (some 0)), (1, xi v1), (2, xi v2), (3, xi v3), (4, xi w4)] [] h1 R H') (K0 : ∀ (a : Int32) (h1 : xH), o = Sum.inr ((a, h1)) → R = some (xi a) ∧ H' = h1) : xEv g l d 152 75 [(0, xr 12 (some 0)), (1, xi v1), (2, xi v2), (3, xi v3), (4, xi v4)] [] h R H' := by
  unfold f_M_numberHere_b75 at hf
  refine xs_aload_n d152_75 rfl ?_
  refine xs_dup d152_76 rfl ?_
  refine xe_geti d152_77 ky152 fl169 fk12_8 ?_
  refine xs_iconst (v := 1) d152_80 (by decide) ?_
  refine xs_iadd d152_81 ?_
  obtain ⟨h25, eh25, hf⟩ := lk_let hf
  refine xe_puti d152_82 ky152 fl169 fk12_8 ft12_8 eh25 ?_
  refine xs_goto (tgt := 34) d152_85 (by decide) ?_
  exact K1 _ _ (Option.some.inj hf).symm
noncomputable def f_M_numberHere_s34 (v1 : Int32) (v2 : Int32) (v3 : Int32) (v4 : Int32) (h : xH) : Option ((Int32 × xH) ⊕ (Int32 × xH)) :=
  (f_M_isDigit (h.1 12 8 0) h).bind fun r12 =>
  if r12 = (0 : Int32) then (
  xup (f_M_numberHere_b88 v1 v2 v3 v4 h)) else (
  if (5 : Int32) ≤ ((h.1 12 8 0) - v3) then (
  f_M_numberHere_b75 v1 v2 v3 v4 h) else (
  if xib (h.1 12 8 0) 400 then (
  xlet ((((10 : Int32) * v4) + (h.2.2.2.1 47 0 (h.1 12 8 0).toNatClampNeg)) - (48 : Int32)) fun v4_27 =>
  f_M_numberHere_b75 v1 v2 v3 v4_27 h) else none))
set_option maxHeartbeats 4000000 in
set_option maxRecDepth 100000 in
theorem f_M_numberHere_s34_ok {g : xG} {l : Launch} {d : Nat} {v1 : Int32} {v2 : Int32} {v3 : Int32} {v4 : Int32} {h : xH} {o : ((Int32 × xH) ⊕ (Int32 × xH))} {R : Option xV} {H' : xH} (hD : 1 ≤ d) (hf : f_M_numberHere_s34 v1 v2 v3 v4 h = some o) (K1 : ∀ (w4 : Int32) (h1 : xH), o = Sum.inl (w4, h1) → xEv g l d 152 34 [(0, xr 12 (some 0)), (1, xi v1), (2, xi v2), (3, xi v3), (4, xi w4)] [] h1 R H') (K0 : ∀ (a : Int32) (h1 : xH), o = Sum.inr ((a, h1)) → R = some (xi a) ∧ H' = h1) : xEv g l d 152 34 [(0, xr 12 (some 0)), (1, xi v1), (2, xi v2), (3, xi v3), (4, xi v4)] [] h R H' := by
  unfold f_M_numberHere_s34 at hf
  refine xs_aload_n d152_34 rfl ?_
  refine xs_aload_n d152_35 rfl ?_
  refine xe_geti d152_36 ky152 fl169 fk12_8 ?_
  obtain ⟨r12, hc13, hf⟩ := lk_b hf
  refine xe_callv1 (as := [xi (h.1 12 8 0)]) (st := []) (h2 := h) (d2 := d - 1) d152_39 ky152 ml195 st147 (by decide) cn147 rfl na147 (Nat.le_of_ble_eq_true rfl) (by omega) (f_M_isDigit_ok (by omega) hc13) ?_
  rcases lk_if hf with ⟨hc14, hf⟩ | ⟨hc14, hf⟩
  · refine xs_if_eq (tgt := 88) d152_42 (by decide) (fun _ => ?_) (fun hn => absurd hc14 hn)
    obtain ⟨x0, hf, ex0⟩ := lk_up hf
    exact f_M_numberHere_b88_ok hD hf (fun u0 u1 e => K0 u0 u1 (ex0.trans (congrArg Sum.inr e)))
  · refine xs_if_eq (tgt := 88) d152_42 (by decide) (fun hp => absurd hp hc14) (fun _ => ?_)
    refine xs_aload_n d152_45 rfl ?_
    refine xe_geti d152_46 ky152 fl169 fk12_8 ?_
    refine xs_iload_n d152_49 rfl ?_
    refine xs_isub d152_50 ?_
    refine xs_iconst (v := 5) d152_51 (by decide) ?_
    rcases lk_if hf with ⟨hc24, hf⟩ | ⟨hc24, hf⟩
    · refine xs_icmp_ge (tgt := 75) d152_52 (by decide) (fun _ => ?_) (fun hn => absurd hc24 hn)
      exact f_M_numberHere_b75_ok hD hf K1 K0
    · refine xs_icmp_ge (tgt := 75) d152_52 (by decide) (fun hp => absurd hp hc24) (fun _ => ?_)
      refine xs_bipush (v := 10) d152_55 (by decide) ?_
      refine xs_iload d152_57 rfl ?_
      refine xs_imul d152_59 ?_
      refine xs_aload_n d152_60 rfl ?_
      refine xe_getc (j := 0) d152_61 ky152 fl161 fk12_0 rfl ?_
      refine xs_aload_n d152_64 rfl ?_
      refine xe_geti d152_65 ky152 fl169 fk12_8 ?_
      obtain ⟨hin26, hf⟩ := lk_g hf
      refine xe_bald d152_68 (by decide) ak47 hin26 ?_
      refine xs_iadd d152_69 ?_
      refine xs_bipush (v := 48) d152_70 (by decide) ?_
      refine xs_isub d152_72 ?_
      obtain ⟨v4_27, ev4_27, hf⟩ := lk_let hf
      refine xe_istore (v := v4_27) (ls2 := [(0, xr 12 (some 0)), (1, xi v1), (2, xi v2), (3, xi v3), (4, xi v4_27)]) d152_73 mx152 (by decide) ev4_27 rfl ?_
      exact f_M_numberHere_b75_ok hD hf K1 K0
noncomputable def f_M_numberHere_l34 (v1 : Int32) (v2 : Int32) (v3 : Int32) (v4 : Int32) (h : xH) : Option (Int32 × xH) :=
  whl (fun s => f_M_numberHere_s34 v1 v2 v3 s.1 s.2) (v4, h)
theorem f_M_numberHere_l34_ok {g : xG} {l : Launch} {d : Nat} {v1 : Int32} {v2 : Int32} {v3 : Int32} {v4 : Int32} {h : xH} {o : (Int32 × xH)} {R : Option xV} {H' : xH} (hD : 1 ≤ d) (hf : f_M_numberHere_l34 v1 v2 v3 v4 h = some o) (K0 : ∀ (a : Int32) (h1 : xH), o = (a, h1) → R = some (xi a) ∧ H' = h1) : xEv g l d 152 34 [(0, xr 12 (some 0)), (1, xi v1), (2, xi v2), (3, xi v3), (4, xi v4)] [] h R H' := by
  obtain ⟨n, hn⟩ := whl_iff.mp hf
  clear hf
  induction n generalizing v4 h with
  | zero => cases hn
  | succ n ih =>
    obtain ⟨o2, hs, hn⟩ := lk_b (show (f_M_numberHere_s34 v1 v2 v3 v4 h).bind (fun o => Sum.elim (itn _ n) some o) = some o from hn)
    exact f_M_numberHere_s34_ok hD hs (fun u0 u1 e => ih (by rw [e] at hn; exact hn)) (fun u0 u1 e => K0 u0 u1 (by rw [e] at hn; exact (Option.some.inj hn).symm))
noncomputable def f_M_numberHere_e (v1 : Int32) (v2 : Int32) (h : xH) : Option (Int32 × xH) :=
  (f_M_see h).bind fun q3 =>
  (f_M_isDigit (q3.2.1 12 8 0) q3.2).bind fun r4 =>
  if r4 = (0 : Int32) then (
  (f_M_fails (0 : Int32) (q3.2.1 12 8 0) q3.2).bind fun q9 =>
  if q9.1 = 0 ∨ q9.1 = 1 then (
  some ((q9.1, q9.2))) else none) else (
  xlet (q3.2.1 12 8 0) fun v3_11 =>
  f_M_numberHere_l34 v1 v2 v3_11 (0 : Int32) q3.2)
set_option maxHeartbeats 4000000 in
set_option maxRecDepth 100000 in
theorem f_M_numberHere_e_ok {g : xG} {l : Launch} {d : Nat} {v1 : Int32} {v2 : Int32} {h : xH} {o : (Int32 × xH)} {R : Option xV} {H' : xH} (hD : 1 ≤ d) (hf : f_M_numberHere_e v1 v2 h = some o) (K0 : ∀ (a : Int32) (h1 : xH), o = (a, h1) → R = some (xi a) ∧ H' = h1) : xEv g l d 152 0 [(0, xr 12 (some 0)), (1, xi v1), (2, xi v2)] [] h R H' := by
  unfold f_M_numberHere_e at hf
  refine xs_aload_n d152_0 rfl ?_
  obtain ⟨q3, hc2, hf⟩ := lk_b hf
  refine xe_callv1 (as := []) (st := []) (h2 := q3.2) (d2 := d - 1) d152_1 ky152 ml185 st146 (by decide) cn146 rfl na146 (Nat.le_of_ble_eq_true rfl) (by omega) (f_M_see_ok (by omega) hc2) ?_
  refine xs_pop d152_4 rfl ?_
  refine xs_aload_n d152_5 rfl ?_
  refine xs_aload_n d152_6 rfl ?_
  refine xe_geti d152_7 ky152 fl169 fk12_8 ?_
  obtain ⟨r4, hc5, hf⟩ := lk_b hf
  refine xe_callv1 (as := [xi (q3.2.1 12 8 0)]) (st := []) (h2 := q3.2) (d2 := d - 1) d152_10 ky152 ml195 st147 (by decide) cn147 rfl na147 (Nat.le_of_ble_eq_true rfl) (by omega) (f_M_isDigit_ok (by omega) hc5) ?_
  rcases lk_if hf with ⟨hc6, hf⟩ | ⟨hc6, hf⟩
  · refine xs_if_ne (tgt := 26) d152_13 (by decide) (fun _ => ?_) (fun hn => absurd hc6 hn)
    refine xs_aload_n d152_16 rfl ?_
    refine xs_iconst (v := 0) d152_17 (by decide) ?_
    refine xs_aload_n d152_18 rfl ?_
    refine xe_geti d152_19 ky152 fl169 fk12_8 ?_
    obtain ⟨q9, hc8, hf⟩ := lk_b hf
    refine xe_callv1 (as := [xi (0 : Int32), xi (q3.2.1 12 8 0)]) (st := []) (h2 := q9.2) (d2 := d - 1) d152_22 ky152 ml189 st145 (by decide) cn145 rfl na145 (Nat.le_of_ble_eq_true rfl) (by omega) (f_M_fails_ok (by omega) hc8) ?_
    obtain ⟨hz10, hf⟩ := lk_g hf
    obtain ⟨eR, eH⟩ := K0 _ _ (Option.some.inj hf).symm
    subst eR; subst eH
    exact xe_zret d152_25 hz10 rt152
  · refine xs_if_ne (tgt := 26) d152_13 (by decide) (fun hp => absurd hp hc6) (fun _ => ?_)
    refine xs_aload_n d152_26 rfl ?_
    refine xe_geti d152_27 ky152 fl169 fk12_8 ?_
    obtain ⟨v3_11, ev3_11, hf⟩ := lk_let hf
    refine xe_istore_n (v := v3_11) (ls2 := [(0, xr 12 (some 0)), (1, xi v1), (2, xi v2), (3, xi v3_11)]) d152_30 mx152 (by decide) ev3_11 rfl ?_
    refine xs_iconst (v := 0) d152_31 (by decide) ?_
    refine xe_istore (v := (0 : Int32)) (ls2 := [(0, xr 12 (some 0)), (1, xi v1), (2, xi v2), (3, xi v3_11), (4, xi (0 : Int32))]) d152_32 mx152 (by decide) rfl rfl ?_
    exact f_M_numberHere_l34_ok hD hf K0
noncomputable def f_M_numberHere (v1 : Int32) (v2 : Int32) (h : xH) : Option (Int32 × xH) := f_M_numberHere_e v1 v2 h
theorem f_M_numberHere_ok {g : xG} {l : Launch} {d : Nat} {v1 : Int32} {v2 : Int32} {h : xH} {r : Int32} {h1 : xH} (hD : 1 ≤ d) (hf : f_M_numberHere v1 v2 h = some (r, h1)) : xC g l d 152 [xr 12 (some 0), xi v1, xi v2] h (some (xi r)) h1 :=
  xC_of2 (by decide) mx152 (Nat.le_of_ble_eq_true rfl) (f_M_numberHere_e_ok hD hf (fun _ _ e => by cases e; exact ⟨rfl, rfl⟩))
theorem d153_0 : decode (xcode 153) 0 = .ok (.aload_n 0, 1) := by decide +kernel
theorem d153_1 : decode (xcode 153) 1 = .ok (.ldc2_w 128, 3) := by decide +kernel
theorem d153_4 : decode (xcode 153) 4 = .ok (.invokevirtual 107, 3) := by decide +kernel
theorem d153_7 : decode (xcode 153) 7 = .ok (.ifCond .eq 5, 3) := by decide +kernel
theorem d153_10 : decode (xcode 153) 10 = .ok (.iconst 0, 1) := by decide +kernel
theorem d153_11 : decode (xcode 153) 11 = .ok (.ireturn, 1) := by decide +kernel
theorem d153_12 : decode (xcode 153) 12 = .ok (.aload_n 0, 1) := by decide +kernel
theorem d153_13 : decode (xcode 153) 13 = .ok (.ldc2_w 130, 3) := by decide +kernel
theorem d153_16 : decode (xcode 153) 16 = .ok (.invokevirtual 107, 3) := by decide +kernel
theorem d153_19 : decode (xcode 153) 19 = .ok (.ifCond .eq 5, 3) := by decide +kernel
theorem d153_22 : decode (xcode 153) 22 = .ok (.iconst 1, 1) := by decide +kernel
theorem d153_23 : decode (xcode 153) 23 = .ok (.ireturn, 1) := by decide +kernel
theorem d153_24 : decode (xcode 153) 24 = .ok (.aload_n 0, 1) := by decide +kernel
theorem d153_25 : decode (xcode 153) 25 = .ok (.ldc2_w 132, 3) := by decide +kernel
theorem d153_28 : decode (xcode 153) 28 = .ok (.invokevirtual 107, 3) := by decide +kernel
theorem d153_31 : decode (xcode 153) 31 = .ok (.ifCond .eq 5, 3) := by decide +kernel
theorem d153_34 : decode (xcode 153) 34 = .ok (.iconst 2, 1) := by decide +kernel
theorem d153_35 : decode (xcode 153) 35 = .ok (.ireturn, 1) := by decide +kernel
theorem d153_36 : decode (xcode 153) 36 = .ok (.aload_n 0, 1) := by decide +kernel
theorem d153_37 : decode (xcode 153) 37 = .ok (.ldc2_w 134, 3) := by decide +kernel
theorem d153_40 : decode (xcode 153) 40 = .ok (.invokevirtual 107, 3) := by decide +kernel
theorem d153_43 : decode (xcode 153) 43 = .ok (.ifCond .eq 5, 3) := by decide +kernel
theorem d153_46 : decode (xcode 153) 46 = .ok (.iconst 3, 1) := by decide +kernel
theorem d153_47 : decode (xcode 153) 47 = .ok (.ireturn, 1) := by decide +kernel
theorem d153_48 : decode (xcode 153) 48 = .ok (.aload_n 0, 1) := by decide +kernel
theorem d153_49 : decode (xcode 153) 49 = .ok (.ldc2_w 136, 3) := by decide +kernel
theorem d153_52 : decode (xcode 153) 52 = .ok (.invokevirtual 107, 3) := by decide +kernel
theorem d153_55 : decode (xcode 153) 55 = .ok (.ifCond .eq 5, 3) := by decide +kernel
theorem d153_58 : decode (xcode 153) 58 = .ok (.iconst 4, 1) := by decide +kernel
theorem d153_59 : decode (xcode 153) 59 = .ok (.ireturn, 1) := by decide +kernel
theorem d153_60 : decode (xcode 153) 60 = .ok (.aload_n 0, 1) := by decide +kernel
theorem d153_61 : decode (xcode 153) 61 = .ok (.ldc2_w 138, 3) := by decide +kernel
theorem d153_64 : decode (xcode 153) 64 = .ok (.invokevirtual 107, 3) := by decide +kernel
theorem d153_67 : decode (xcode 153) 67 = .ok (.ifCond .eq 5, 3) := by decide +kernel
theorem d153_70 : decode (xcode 153) 70 = .ok (.iconst 5, 1) := by decide +kernel
theorem d153_71 : decode (xcode 153) 71 = .ok (.ireturn, 1) := by decide +kernel
theorem d153_72 : decode (xcode 153) 72 = .ok (.aload_n 0, 1) := by decide +kernel
theorem d153_73 : decode (xcode 153) 73 = .ok (.ldc2_w 140, 3) := by decide +kernel
theorem d153_76 : decode (xcode 153) 76 = .ok (.invokevirtual 107, 3) := by decide +kernel
theorem d153_79 : decode (xcode 153) 79 = .ok (.ifCond .eq 6, 3) := by decide +kernel
theorem d153_82 : decode (xcode 153) 82 = .ok (.bipush 6, 2) := by decide +kernel
theorem d153_84 : decode (xcode 153) 84 = .ok (.ireturn, 1) := by decide +kernel
theorem d153_85 : decode (xcode 153) 85 = .ok (.aload_n 0, 1) := by decide +kernel
theorem d153_86 : decode (xcode 153) 86 = .ok (.ldc2_w 142, 3) := by decide +kernel
theorem d153_89 : decode (xcode 153) 89 = .ok (.invokevirtual 107, 3) := by decide +kernel
theorem d153_92 : decode (xcode 153) 92 = .ok (.ifCond .eq 6, 3) := by decide +kernel
theorem d153_95 : decode (xcode 153) 95 = .ok (.bipush 7, 2) := by decide +kernel
theorem d153_97 : decode (xcode 153) 97 = .ok (.ireturn, 1) := by decide +kernel
theorem d153_98 : decode (xcode 153) 98 = .ok (.aload_n 0, 1) := by decide +kernel
theorem d153_99 : decode (xcode 153) 99 = .ok (.ldc2_w 144, 3) := by decide +kernel
theorem d153_102 : decode (xcode 153) 102 = .ok (.invokevirtual 107, 3) := by decide +kernel
theorem d153_105 : decode (xcode 153) 105 = .ok (.ifCond .eq 6, 3) := by decide +kernel
theorem d153_108 : decode (xcode 153) 108 = .ok (.bipush 8, 2) := by decide +kernel
theorem d153_110 : decode (xcode 153) 110 = .ok (.ireturn, 1) := by decide +kernel
theorem d153_111 : decode (xcode 153) 111 = .ok (.aload_n 0, 1) := by decide +kernel
theorem d153_112 : decode (xcode 153) 112 = .ok (.ldc2_w 146, 3) := by decide +kernel
theorem d153_115 : decode (xcode 153) 115 = .ok (.invokevirtual 107, 3) := by decide +kernel
theorem d153_118 : decode (xcode 153) 118 = .ok (.ifCond .eq 6, 3) := by decide +kernel
theorem d153_121 : decode (xcode 153) 121 = .ok (.bipush 9, 2) := by decide +kernel
theorem d153_123 : decode (xcode 153) 123 = .ok (.ireturn, 1) := by decide +kernel
theorem d153_124 : decode (xcode 153) 124 = .ok (.aload_n 0, 1) := by decide +kernel
theorem d153_125 : decode (xcode 153) 125 = .ok (.ldc2_w 148, 3) := by decide +kernel
theorem d153_128 : decode (xcode 153) 128 = .ok (.invokevirtual 107, 3) := by decide +kernel
theorem d153_131 : decode (xcode 153) 131 = .ok (.ifCond .eq 8, 3) := by decide +kernel
theorem d153_134 : decode (xcode 153) 134 = .ok (.bipush 10, 2) := by decide +kernel
theorem d153_136 : decode (xcode 153) 136 = .ok (.goto 19, 3) := by decide +kernel
theorem d153_139 : decode (xcode 153) 139 = .ok (.aload_n 0, 1) := by decide +kernel
theorem d153_140 : decode (xcode 153) 140 = .ok (.ldc2_w 150, 3) := by decide +kernel
theorem d153_143 : decode (xcode 153) 143 = .ok (.invokevirtual 107, 3) := by decide +kernel
theorem d153_146 : decode (xcode 153) 146 = .ok (.ifCond .eq 8, 3) := by decide +kernel
theorem d153_149 : decode (xcode 153) 149 = .ok (.bipush 11, 2) := by decide +kernel
theorem d153_151 : decode (xcode 153) 151 = .ok (.goto 4, 3) := by decide +kernel
theorem d153_154 : decode (xcode 153) 154 = .ok (.iconst (-1), 1) := by decide +kernel
theorem d153_155 : decode (xcode 153) 155 = .ok (.ireturn, 1) := by decide +kernel
noncomputable def f_M_wordHere_e (h : xH) : Option (Int32 × xH) :=
  (f_M_isWord (126922498666359 : Int64) h).bind fun q3 =>
  if q3.1 = (0 : Int32) then (
  (f_M_isWord (131277443786868 : Int64) q3.2).bind fun q7 =>
  if q7.1 = (0 : Int32) then (
  (f_M_isWord (1953066341 : Int64) q7.2).bind fun q11 =>
  if q11.1 = (0 : Int32) then (
  (f_M_isWord (1684366704 : Int64) q11.2).bind fun q15 =>
  if q15.1 = (0 : Int32) then (
  (f_M_isWord (1870030194 : Int64) q15.2).bind fun q19 =>
  if q19.1 = (0 : Int32) then (
  (f_M_isWord (1835101817 : Int64) q19.2).bind fun q23 =>
  if q23.1 = (0 : Int32) then (
  (f_M_isWord (465726042981 : Int64) q23.2).bind fun q27 =>
  if q27.1 = (0 : Int32) then (
  (f_M_isWord (1818584692 : Int64) q27.2).bind fun q31 =>
  if q31.1 = (0 : Int32) then (
  (f_M_isWord (1819238756 : Int64) q31.2).bind fun q35 =>
  if q35.1 = (0 : Int32) then (
  (f_M_isWord (1919251316 : Int64) q35.2).bind fun q39 =>
  if q39.1 = (0 : Int32) then (
  (f_M_isWord (120299592184933 : Int64) q39.2).bind fun q43 =>
  if q43.1 = (0 : Int32) then (
  (f_M_isWord (1937007984 : Int64) q43.2).bind fun q47 =>
  if q47.1 = (0 : Int32) then (
  some (((-1 : Int32), q47.2))) else (
  some (((11 : Int32), q47.2)))) else (
  some (((10 : Int32), q43.2)))) else (
  some (((9 : Int32), q39.2)))) else (
  some (((8 : Int32), q35.2)))) else (
  some (((7 : Int32), q31.2)))) else (
  some (((6 : Int32), q27.2)))) else (
  some (((5 : Int32), q23.2)))) else (
  some (((4 : Int32), q19.2)))) else (
  some (((3 : Int32), q15.2)))) else (
  some (((2 : Int32), q11.2)))) else (
  some (((1 : Int32), q7.2)))) else (
  some (((0 : Int32), q3.2)))
set_option maxHeartbeats 4000000 in
set_option maxRecDepth 100000 in
theorem f_M_wordHere_e_ok {g : xG} {l : Launch} {d : Nat} {h : xH} {o : (Int32 × xH)} {R : Option xV} {H' : xH} (hD : 2 ≤ d) (hf : f_M_wordHere_e h = some o) (K0 : ∀ (a : Int32) (h1 : xH), o = (a, h1) → R = some (xi a) ∧ H' = h1) : xEv g l d 153 0 [(0, xr 12 (some 0))] [] h R H' := by
  unfold f_M_wordHere_e at hf
  refine xs_aload_n d153_0 rfl ?_
  refine xs_ldc2 (v := 126922498666359) d153_1 cl12_128 ?_
  obtain ⟨q3, hc2, hf⟩ := lk_b hf
  refine xe_callv1 (as := [xl (126922498666359 : Int64)]) (st := []) (h2 := q3.2) (d2 := d - 1) d153_4 ky153 ml187 st149 (by decide) cn149 rfl na149 (Nat.le_of_ble_eq_true rfl) (by omega) (f_M_isWord_ok (by omega) hc2) ?_
  rcases lk_if hf with ⟨hc4, hf⟩ | ⟨hc4, hf⟩
  · refine xs_if_eq (tgt := 12) d153_7 (by decide) (fun _ => ?_) (fun hn => absurd hc4 hn)
    refine xs_aload_n d153_12 rfl ?_
    refine xs_ldc2 (v := 131277443786868) d153_13 cl12_130 ?_
    obtain ⟨q7, hc6, hf⟩ := lk_b hf
    refine xe_callv1 (as := [xl (131277443786868 : Int64)]) (st := []) (h2 := q7.2) (d2 := d - 1) d153_16 ky153 ml187 st149 (by decide) cn149 rfl na149 (Nat.le_of_ble_eq_true rfl) (by omega) (f_M_isWord_ok (by omega) hc6) ?_
    rcases lk_if hf with ⟨hc8, hf⟩ | ⟨hc8, hf⟩
    · refine xs_if_eq (tgt := 24) d153_19 (by decide) (fun _ => ?_) (fun hn => absurd hc8 hn)
      refine xs_aload_n d153_24 rfl ?_
      refine xs_ldc2 (v := 1953066341) d153_25 cl12_132 ?_
      obtain ⟨q11, hc10, hf⟩ := lk_b hf
      refine xe_callv1 (as := [xl (1953066341 : Int64)]) (st := []) (h2 := q11.2) (d2 := d - 1) d153_28 ky153 ml187 st149 (by decide) cn149 rfl na149 (Nat.le_of_ble_eq_true rfl) (by omega) (f_M_isWord_ok (by omega) hc10) ?_
      rcases lk_if hf with ⟨hc12, hf⟩ | ⟨hc12, hf⟩
      · refine xs_if_eq (tgt := 36) d153_31 (by decide) (fun _ => ?_) (fun hn => absurd hc12 hn)
        refine xs_aload_n d153_36 rfl ?_
        refine xs_ldc2 (v := 1684366704) d153_37 cl12_134 ?_
        obtain ⟨q15, hc14, hf⟩ := lk_b hf
        refine xe_callv1 (as := [xl (1684366704 : Int64)]) (st := []) (h2 := q15.2) (d2 := d - 1) d153_40 ky153 ml187 st149 (by decide) cn149 rfl na149 (Nat.le_of_ble_eq_true rfl) (by omega) (f_M_isWord_ok (by omega) hc14) ?_
        rcases lk_if hf with ⟨hc16, hf⟩ | ⟨hc16, hf⟩
        · refine xs_if_eq (tgt := 48) d153_43 (by decide) (fun _ => ?_) (fun hn => absurd hc16 hn)
          refine xs_aload_n d153_48 rfl ?_
          refine xs_ldc2 (v := 1870030194) d153_49 cl12_136 ?_
          obtain ⟨q19, hc18, hf⟩ := lk_b hf
          refine xe_callv1 (as := [xl (1870030194 : Int64)]) (st := []) (h2 := q19.2) (d2 := d - 1) d153_52 ky153 ml187 st149 (by decide) cn149 rfl na149 (Nat.le_of_ble_eq_true rfl) (by omega) (f_M_isWord_ok (by omega) hc18) ?_
          rcases lk_if hf with ⟨hc20, hf⟩ | ⟨hc20, hf⟩
          · refine xs_if_eq (tgt := 60) d153_55 (by decide) (fun _ => ?_) (fun hn => absurd hc20 hn)
            refine xs_aload_n d153_60 rfl ?_
            refine xs_ldc2 (v := 1835101817) d153_61 cl12_138 ?_
            obtain ⟨q23, hc22, hf⟩ := lk_b hf
            refine xe_callv1 (as := [xl (1835101817 : Int64)]) (st := []) (h2 := q23.2) (d2 := d - 1) d153_64 ky153 ml187 st149 (by decide) cn149 rfl na149 (Nat.le_of_ble_eq_true rfl) (by omega) (f_M_isWord_ok (by omega) hc22) ?_
            rcases lk_if hf with ⟨hc24, hf⟩ | ⟨hc24, hf⟩
            · refine xs_if_eq (tgt := 72) d153_67 (by decide) (fun _ => ?_) (fun hn => absurd hc24 hn)
              refine xs_aload_n d153_72 rfl ?_
              refine xs_ldc2 (v := 465726042981) d153_73 cl12_140 ?_
              obtain ⟨q27, hc26, hf⟩ := lk_b hf
              refine xe_callv1 (as := [xl (465726042981 : Int64)]) (st := []) (h2 := q27.2) (d2 := d - 1) d153_76 ky153 ml187 st149 (by decide) cn149 rfl na149 (Nat.le_of_ble_eq_true rfl) (by omega) (f_M_isWord_ok (by omega) hc26) ?_
              rcases lk_if hf with ⟨hc28, hf⟩ | ⟨hc28, hf⟩
              · refine xs_if_eq (tgt := 85) d153_79 (by decide) (fun _ => ?_) (fun hn => absurd hc28 hn)
                refine xs_aload_n d153_85 rfl ?_
                refine xs_ldc2 (v := 1818584692) d153_86 cl12_142 ?_
                obtain ⟨q31, hc30, hf⟩ := lk_b hf
                refine xe_callv1 (as := [xl (1818584692 : Int64)]) (st := []) (h2 := q31.2) (d2 := d - 1) d153_89 ky153 ml187 st149 (by decide) cn149 rfl na149 (Nat.le_of_ble_eq_true rfl) (by omega) (f_M_isWord_ok (by omega) hc30) ?_
                rcases lk_if hf with ⟨hc32, hf⟩ | ⟨hc32, hf⟩
                · refine xs_if_eq (tgt := 98) d153_92 (by decide) (fun _ => ?_) (fun hn => absurd hc32 hn)
                  refine xs_aload_n d153_98 rfl ?_
                  refine xs_ldc2 (v := 1819238756) d153_99 cl12_144 ?_
                  obtain ⟨q35, hc34, hf⟩ := lk_b hf
                  refine xe_callv1 (as := [xl (1819238756 : Int64)]) (st := []) (h2 := q35.2) (d2 := d - 1) d153_102 ky153 ml187 st149 (by decide) cn149 rfl na149 (Nat.le_of_ble_eq_true rfl) (by omega) (f_M_isWord_ok (by omega) hc34) ?_
                  rcases lk_if hf with ⟨hc36, hf⟩ | ⟨hc36, hf⟩
                  · refine xs_if_eq (tgt := 111) d153_105 (by decide) (fun _ => ?_) (fun hn => absurd hc36 hn)
                    refine xs_aload_n d153_111 rfl ?_
                    refine xs_ldc2 (v := 1919251316) d153_112 cl12_146 ?_
                    obtain ⟨q39, hc38, hf⟩ := lk_b hf
                    refine xe_callv1 (as := [xl (1919251316 : Int64)]) (st := []) (h2 := q39.2) (d2 := d - 1) d153_115 ky153 ml187 st149 (by decide) cn149 rfl na149 (Nat.le_of_ble_eq_true rfl) (by omega) (f_M_isWord_ok (by omega) hc38) ?_
                    rcases lk_if hf with ⟨hc40, hf⟩ | ⟨hc40, hf⟩
                    · refine xs_if_eq (tgt := 124) d153_118 (by decide) (fun _ => ?_) (fun hn => absurd hc40 hn)
                      refine xs_aload_n d153_124 rfl ?_
                      refine xs_ldc2 (v := 120299592184933) d153_125 cl12_148 ?_
                      obtain ⟨q43, hc42, hf⟩ := lk_b hf
                      refine xe_callv1 (as := [xl (120299592184933 : Int64)]) (st := []) (h2 := q43.2) (d2 := d - 1) d153_128 ky153 ml187 st149 (by decide) cn149 rfl na149 (Nat.le_of_ble_eq_true rfl) (by omega) (f_M_isWord_ok (by omega) hc42) ?_
                      rcases lk_if hf with ⟨hc44, hf⟩ | ⟨hc44, hf⟩
                      · refine xs_if_eq (tgt := 139) d153_131 (by decide) (fun _ => ?_) (fun hn => absurd hc44 hn)
                        refine xs_aload_n d153_139 rfl ?_
                        refine xs_ldc2 (v := 1937007984) d153_140 cl12_150 ?_
                        obtain ⟨q47, hc46, hf⟩ := lk_b hf
                        refine xe_callv1 (as := [xl (1937007984 : Int64)]) (st := []) (h2 := q47.2) (d2 := d - 1) d153_143 ky153 ml187 st149 (by decide) cn149 rfl na149 (Nat.le_of_ble_eq_true rfl) (by omega) (f_M_isWord_ok (by omega) hc46) ?_
                        rcases lk_if hf with ⟨hc48, hf⟩ | ⟨hc48, hf⟩
                        · refine xs_if_eq (tgt := 154) d153_146 (by decide) (fun _ => ?_) (fun hn => absurd hc48 hn)
                          refine xs_iconst (v := -1) d153_154 (by decide) ?_
                          obtain ⟨eR, eH⟩ := K0 _ _ (Option.some.inj hf).symm
                          subst eR; subst eH
                          exact xs_iret d153_155 rt153
                        · refine xs_if_eq (tgt := 154) d153_146 (by decide) (fun hp => absurd hp hc48) (fun _ => ?_)
                          refine xs_bipush (v := 11) d153_149 (by decide) ?_
                          refine xs_goto (tgt := 155) d153_151 (by decide) ?_
                          obtain ⟨eR, eH⟩ := K0 _ _ (Option.some.inj hf).symm
                          subst eR; subst eH
                          exact xs_iret d153_155 rt153
                      · refine xs_if_eq (tgt := 139) d153_131 (by decide) (fun hp => absurd hp hc44) (fun _ => ?_)
                        refine xs_bipush (v := 10) d153_134 (by decide) ?_
                        refine xs_goto (tgt := 155) d153_136 (by decide) ?_
                        obtain ⟨eR, eH⟩ := K0 _ _ (Option.some.inj hf).symm
                        subst eR; subst eH
                        exact xs_iret d153_155 rt153
                    · refine xs_if_eq (tgt := 124) d153_118 (by decide) (fun hp => absurd hp hc40) (fun _ => ?_)
                      refine xs_bipush (v := 9) d153_121 (by decide) ?_
                      obtain ⟨eR, eH⟩ := K0 _ _ (Option.some.inj hf).symm
                      subst eR; subst eH
                      exact xs_iret d153_123 rt153
                  · refine xs_if_eq (tgt := 111) d153_105 (by decide) (fun hp => absurd hp hc36) (fun _ => ?_)
                    refine xs_bipush (v := 8) d153_108 (by decide) ?_
                    obtain ⟨eR, eH⟩ := K0 _ _ (Option.some.inj hf).symm
                    subst eR; subst eH
                    exact xs_iret d153_110 rt153
                · refine xs_if_eq (tgt := 98) d153_92 (by decide) (fun hp => absurd hp hc32) (fun _ => ?_)
                  refine xs_bipush (v := 7) d153_95 (by decide) ?_
                  obtain ⟨eR, eH⟩ := K0 _ _ (Option.some.inj hf).symm
                  subst eR; subst eH
                  exact xs_iret d153_97 rt153
              · refine xs_if_eq (tgt := 85) d153_79 (by decide) (fun hp => absurd hp hc28) (fun _ => ?_)
                refine xs_bipush (v := 6) d153_82 (by decide) ?_
                obtain ⟨eR, eH⟩ := K0 _ _ (Option.some.inj hf).symm
                subst eR; subst eH
                exact xs_iret d153_84 rt153
            · refine xs_if_eq (tgt := 72) d153_67 (by decide) (fun hp => absurd hp hc24) (fun _ => ?_)
              refine xs_iconst (v := 5) d153_70 (by decide) ?_
              obtain ⟨eR, eH⟩ := K0 _ _ (Option.some.inj hf).symm
              subst eR; subst eH
              exact xs_iret d153_71 rt153
          · refine xs_if_eq (tgt := 60) d153_55 (by decide) (fun hp => absurd hp hc20) (fun _ => ?_)
            refine xs_iconst (v := 4) d153_58 (by decide) ?_
            obtain ⟨eR, eH⟩ := K0 _ _ (Option.some.inj hf).symm
            subst eR; subst eH
            exact xs_iret d153_59 rt153
        · refine xs_if_eq (tgt := 48) d153_43 (by decide) (fun hp => absurd hp hc16) (fun _ => ?_)
          refine xs_iconst (v := 3) d153_46 (by decide) ?_
          obtain ⟨eR, eH⟩ := K0 _ _ (Option.some.inj hf).symm
          subst eR; subst eH
          exact xs_iret d153_47 rt153
      · refine xs_if_eq (tgt := 36) d153_31 (by decide) (fun hp => absurd hp hc12) (fun _ => ?_)
        refine xs_iconst (v := 2) d153_34 (by decide) ?_
        obtain ⟨eR, eH⟩ := K0 _ _ (Option.some.inj hf).symm
        subst eR; subst eH
        exact xs_iret d153_35 rt153
    · refine xs_if_eq (tgt := 24) d153_19 (by decide) (fun hp => absurd hp hc8) (fun _ => ?_)
      refine xs_iconst (v := 1) d153_22 (by decide) ?_
      obtain ⟨eR, eH⟩ := K0 _ _ (Option.some.inj hf).symm
      subst eR; subst eH
      exact xs_iret d153_23 rt153
  · refine xs_if_eq (tgt := 12) d153_7 (by decide) (fun hp => absurd hp hc4) (fun _ => ?_)
    refine xs_iconst (v := 0) d153_10 (by decide) ?_
    obtain ⟨eR, eH⟩ := K0 _ _ (Option.some.inj hf).symm
    subst eR; subst eH
    exact xs_iret d153_11 rt153
noncomputable def f_M_wordHere (h : xH) : Option (Int32 × xH) := f_M_wordHere_e h
theorem f_M_wordHere_ok {g : xG} {l : Launch} {d : Nat} {h : xH} {r : Int32} {h1 : xH} (hD : 2 ≤ d) (hf : f_M_wordHere h = some (r, h1)) : xC g l d 153 [xr 12 (some 0)] h (some (xi r)) h1 :=
  xC_of2 (by decide) mx153 (Nat.le_of_ble_eq_true rfl) (f_M_wordHere_e_ok hD hf (fun _ _ e => by cases e; exact ⟨rfl, rfl⟩))
theorem d154_0 : decode (xcode 154) 0 = .ok (.aload_n 0, 1) := by decide +kernel
theorem d154_1 : decode (xcode 154) 1 = .ok (.getfield 13, 3) := by decide +kernel
theorem d154_4 : decode (xcode 154) 4 = .ok (.sipush 400, 3) := by decide +kernel
theorem d154_7 : decode (xcode 154) 7 = .ok (.aload_n 0, 1) := by decide +kernel
theorem d154_8 : decode (xcode 154) 8 = .ok (.getfield 152, 3) := by decide +kernel
theorem d154_11 : decode (xcode 154) 11 = .ok (.imul, 1) := by decide +kernel
theorem d154_12 : decode (xcode 154) 12 = .ok (.aload_n 0, 1) := by decide +kernel
theorem d154_13 : decode (xcode 154) 13 = .ok (.getfield 17, 3) := by decide +kernel
theorem d154_16 : decode (xcode 154) 16 = .ok (.aload_n 0, 1) := by decide +kernel
theorem d154_17 : decode (xcode 154) 17 = .ok (.getfield 152, 3) := by decide +kernel
theorem d154_20 : decode (xcode 154) 20 = .ok (.iaload, 1) := by decide +kernel
theorem d154_21 : decode (xcode 154) 21 = .ok (.iadd, 1) := by decide +kernel
theorem d154_22 : decode (xcode 154) 22 = .ok (.iload_n 1, 1) := by decide +kernel
theorem d154_23 : decode (xcode 154) 23 = .ok (.bipush 16, 2) := by decide +kernel
theorem d154_25 : decode (xcode 154) 25 = .ok (.iload_n 2, 1) := by decide +kernel
theorem d154_26 : decode (xcode 154) 26 = .ok (.imul, 1) := by decide +kernel
theorem d154_27 : decode (xcode 154) 27 = .ok (.iadd, 1) := by decide +kernel
theorem d154_28 : decode (xcode 154) 28 = .ok (.iastore, 1) := by decide +kernel
theorem d154_29 : decode (xcode 154) 29 = .ok (.aload_n 0, 1) := by decide +kernel
theorem d154_30 : decode (xcode 154) 30 = .ok (.getfield 17, 3) := by decide +kernel
theorem d154_33 : decode (xcode 154) 33 = .ok (.aload_n 0, 1) := by decide +kernel
theorem d154_34 : decode (xcode 154) 34 = .ok (.getfield 152, 3) := by decide +kernel
theorem d154_37 : decode (xcode 154) 37 = .ok (.dup2, 1) := by decide +kernel
theorem d154_38 : decode (xcode 154) 38 = .ok (.iaload, 1) := by decide +kernel
theorem d154_39 : decode (xcode 154) 39 = .ok (.iconst 1, 1) := by decide +kernel
theorem d154_40 : decode (xcode 154) 40 = .ok (.iadd, 1) := by decide +kernel
theorem d154_41 : decode (xcode 154) 41 = .ok (.iastore, 1) := by decide +kernel
theorem d154_42 : decode (xcode 154) 42 = .ok (.return_, 1) := by decide +kernel
noncomputable def f_M_puts_e (v1 : Int32) (v2 : Int32) (h : xH) : Option xH :=
  if xib (h.1 12 11 0) 7 then (
  if xib (((400 : Int32) * (h.1 12 11 0)) + (h.2.2.2.1 49 0 (h.1 12 11 0).toNatClampNeg)) 2400 then (
  xlet (xsA h 48 0 (upd (h.2.2.2.1 48 0) (((400 : Int32) * (h.1 12 11 0)) + (h.2.2.2.1 49 0 (h.1 12 11 0).toNatClampNeg)).toNatClampNeg (v1 + ((16 : Int32) * v2)))) fun h3 =>
  if xib (h3.1 12 11 0) 7 then (
  if xib (h3.1 12 11 0) 7 then (
  xlet (xsA h3 49 0 (upd (h3.2.2.2.1 49 0) (h3.1 12 11 0).toNatClampNeg ((h3.2.2.2.1 49 0 (h3.1 12 11 0).toNatClampNeg) + (1 : Int32)))) fun h6 =>
  some (h6)) else none) else none) else none) else none
set_option maxHeartbeats 4000000 in
set_option maxRecDepth 100000 in
theorem f_M_puts_e_ok {g : xG} {l : Launch} {d : Nat} {v1 : Int32} {v2 : Int32} {h : xH} {o : xH} {R : Option xV} {H' : xH} (hD : 0 ≤ d) (hf : f_M_puts_e v1 v2 h = some o) (K0 : ∀ (h1 : xH), o = h1 → R = none ∧ H' = h1) : xEv g l d 154 0 [(0, xr 12 (some 0)), (1, xi v1), (2, xi v2)] [] h R H' := by
  unfold f_M_puts_e at hf
  refine xs_aload_n d154_0 rfl ?_
  refine xe_getc (j := 0) d154_1 ky154 fl164 fk12_3 rfl ?_
  refine xs_sipush (v := 400) d154_4 (by decide) ?_
  refine xs_aload_n d154_7 rfl ?_
  refine xe_geti d154_8 ky154 fl172 fk12_11 ?_
  refine xs_imul d154_11 ?_
  refine xs_aload_n d154_12 rfl ?_
  refine xe_getc (j := 0) d154_13 ky154 fl165 fk12_4 rfl ?_
  refine xs_aload_n d154_16 rfl ?_
  refine xe_geti d154_17 ky154 fl172 fk12_11 ?_
  obtain ⟨hin1, hf⟩ := lk_g hf
  refine xe_iald d154_20 (by decide) ak49 hin1 ?_
  refine xs_iadd d154_21 ?_
  refine xs_iload_n d154_22 rfl ?_
  refine xs_bipush (v := 16) d154_23 (by decide) ?_
  refine xs_iload_n d154_25 rfl ?_
  refine xs_imul d154_26 ?_
  refine xs_iadd d154_27 ?_
  obtain ⟨hin2, hf⟩ := lk_g hf
  obtain ⟨h3, eh3, hf⟩ := lk_let hf
  refine xe_iast d154_28 (by decide) ak48 hin2  eh3 ?_
  refine xs_aload_n d154_29 rfl ?_
  refine xe_getc (j := 0) d154_30 ky154 fl165 fk12_4 rfl ?_
  refine xs_aload_n d154_33 rfl ?_
  refine xe_geti d154_34 ky154 fl172 fk12_11 ?_
  refine xs_dup2 d154_37 rfl rfl ?_
  obtain ⟨hin4, hf⟩ := lk_g hf
  refine xe_iald d154_38 (by decide) ak49 hin4 ?_
  refine xs_iconst (v := 1) d154_39 (by decide) ?_
  refine xs_iadd d154_40 ?_
  obtain ⟨hin5, hf⟩ := lk_g hf
  obtain ⟨h6, eh6, hf⟩ := lk_let hf
  refine xe_iast d154_41 (by decide) ak49 hin5  eh6 ?_
  obtain ⟨eR, eH⟩ := K0 _ (Option.some.inj hf).symm
  subst eR; subst eH
  exact xs_vret d154_42 rt154
noncomputable def f_M_puts (v1 : Int32) (v2 : Int32) (h : xH) : Option xH := f_M_puts_e v1 v2 h
theorem f_M_puts_ok {g : xG} {l : Launch} {d : Nat} {v1 : Int32} {v2 : Int32} {h : xH} {h1 : xH} (hD : 0 ≤ d) (hf : f_M_puts v1 v2 h = some h1) : xC g l d 154 [xr 12 (some 0), xi v1, xi v2] h none h1 :=
  xC_of2 (by decide) mx154 (Nat.le_of_ble_eq_true rfl) (f_M_puts_e_ok hD hf (fun _ e => ⟨rfl, e⟩))
theorem d155_0 : decode (xcode 155) 0 = .ok (.aload_n 0, 1) := by decide +kernel
theorem d155_1 : decode (xcode 155) 1 = .ok (.getfield 155, 3) := by decide +kernel
theorem d155_4 : decode (xcode 155) 4 = .ok (.bipush 60, 2) := by decide +kernel
theorem d155_6 : decode (xcode 155) 6 = .ok (.if_icmp .ne 10, 3) := by decide +kernel
theorem d155_9 : decode (xcode 155) 9 = .ok (.aload_n 0, 1) := by decide +kernel
theorem d155_10 : decode (xcode 155) 10 = .ok (.iconst 3, 1) := by decide +kernel
theorem d155_11 : decode (xcode 155) 11 = .ok (.iload_n 1, 1) := by decide +kernel
theorem d155_12 : decode (xcode 155) 12 = .ok (.invokevirtual 117, 3) := by decide +kernel
theorem d155_15 : decode (xcode 155) 15 = .ok (.ireturn, 1) := by decide +kernel
theorem d155_16 : decode (xcode 155) 16 = .ok (.aload_n 0, 1) := by decide +kernel
theorem d155_17 : decode (xcode 155) 17 = .ok (.dup, 1) := by decide +kernel
theorem d155_18 : decode (xcode 155) 18 = .ok (.getfield 155, 3) := by decide +kernel
theorem d155_21 : decode (xcode 155) 21 = .ok (.iconst 1, 1) := by decide +kernel
theorem d155_22 : decode (xcode 155) 22 = .ok (.iadd, 1) := by decide +kernel
theorem d155_23 : decode (xcode 155) 23 = .ok (.putfield 155, 3) := by decide +kernel
theorem d155_26 : decode (xcode 155) 26 = .ok (.iconst 1, 1) := by decide +kernel
theorem d155_27 : decode (xcode 155) 27 = .ok (.ireturn, 1) := by decide +kernel
noncomputable def f_M_makes_e (v1 : Int32) (h : xH) : Option (Int32 × xH) :=
  if (h.1 12 12 0) = (60 : Int32) then (
  (f_M_fails (3 : Int32) v1 h).bind fun q4 =>
  if q4.1 = 0 ∨ q4.1 = 1 then (
  some ((q4.1, q4.2))) else none) else (
  xlet (xsI h 12 12 0 ((h.1 12 12 0) + (1 : Int32))) fun h6 =>
  some (((1 : Int32), h6)))
set_option maxHeartbeats 4000000 in
set_option maxRecDepth 100000 in
theorem f_M_makes_e_ok {g : xG} {l : Launch} {d : Nat} {v1 : Int32} {h : xH} {o : (Int32 × xH)} {R : Option xV} {H' : xH} (hD : 1 ≤ d) (hf : f_M_makes_e v1 h = some o) (K0 : ∀ (a : Int32) (h1 : xH), o = (a, h1) → R = some (xi a) ∧ H' = h1) : xEv g l d 155 0 [(0, xr 12 (some 0)), (1, xi v1)] [] h R H' := by
  unfold f_M_makes_e at hf
  refine xs_aload_n d155_0 rfl ?_
  refine xe_geti d155_1 ky155 fl173 fk12_12 ?_
  refine xs_bipush (v := 60) d155_4 (by decide) ?_
  rcases lk_if hf with ⟨hc1, hf⟩ | ⟨hc1, hf⟩
  · refine xs_icmp_ne (tgt := 16) d155_6 (by decide) (fun _ => ?_) (fun hn => absurd hc1 hn)
    refine xs_aload_n d155_9 rfl ?_
    refine xs_iconst (v := 3) d155_10 (by decide) ?_
    refine xs_iload_n d155_11 rfl ?_
    obtain ⟨q4, hc3, hf⟩ := lk_b hf
    refine xe_callv1 (as := [xi (3 : Int32), xi v1]) (st := []) (h2 := q4.2) (d2 := d - 1) d155_12 ky155 ml189 st145 (by decide) cn145 rfl na145 (Nat.le_of_ble_eq_true rfl) (by omega) (f_M_fails_ok (by omega) hc3) ?_
    obtain ⟨hz5, hf⟩ := lk_g hf
    obtain ⟨eR, eH⟩ := K0 _ _ (Option.some.inj hf).symm
    subst eR; subst eH
    exact xe_zret d155_15 hz5 rt155
  · refine xs_icmp_ne (tgt := 16) d155_6 (by decide) (fun hp => absurd hp hc1) (fun _ => ?_)
    refine xs_aload_n d155_16 rfl ?_
    refine xs_dup d155_17 rfl ?_
    refine xe_geti d155_18 ky155 fl173 fk12_12 ?_
    refine xs_iconst (v := 1) d155_21 (by decide) ?_
    refine xs_iadd d155_22 ?_
    obtain ⟨h6, eh6, hf⟩ := lk_let hf
    refine xe_puti d155_23 ky155 fl173 fk12_12 ft12_12 eh6 ?_
    refine xs_iconst (v := 1) d155_26 (by decide) ?_
    obtain ⟨eR, eH⟩ := K0 _ _ (Option.some.inj hf).symm
    subst eR; subst eH
    exact xe_zret d155_27 (Or.inr rfl) rt155
noncomputable def f_M_makes (v1 : Int32) (h : xH) : Option (Int32 × xH) := f_M_makes_e v1 h
theorem f_M_makes_ok {g : xG} {l : Launch} {d : Nat} {v1 : Int32} {h : xH} {r : Int32} {h1 : xH} (hD : 1 ≤ d) (hf : f_M_makes v1 h = some (r, h1)) : xC g l d 155 [xr 12 (some 0), xi v1] h (some (xi r)) h1 :=
  xC_of2 (by decide) mx155 (Nat.le_of_ble_eq_true rfl) (f_M_makes_e_ok hD hf (fun _ _ e => by cases e; exact ⟨rfl, rfl⟩))
theorem d156_0 : decode (xcode 156) 0 = .ok (.aload_n 0, 1) := by decide +kernel
theorem d156_1 : decode (xcode 156) 1 = .ok (.getfield 158, 3) := by decide +kernel
theorem d156_4 : decode (xcode 156) 4 = .ok (.bipush 10, 2) := by decide +kernel
theorem d156_6 : decode (xcode 156) 6 = .ok (.if_icmp .ne 13, 3) := by decide +kernel
theorem d156_9 : decode (xcode 156) 9 = .ok (.aload_n 0, 1) := by decide +kernel
theorem d156_10 : decode (xcode 156) 10 = .ok (.iconst 2, 1) := by decide +kernel
theorem d156_11 : decode (xcode 156) 11 = .ok (.aload_n 0, 1) := by decide +kernel
theorem d156_12 : decode (xcode 156) 12 = .ok (.getfield 96, 3) := by decide +kernel
theorem d156_15 : decode (xcode 156) 15 = .ok (.invokevirtual 117, 3) := by decide +kernel
theorem d156_18 : decode (xcode 156) 18 = .ok (.ireturn, 1) := by decide +kernel
theorem d156_19 : decode (xcode 156) 19 = .ok (.aload_n 0, 1) := by decide +kernel
theorem d156_20 : decode (xcode 156) 20 = .ok (.dup, 1) := by decide +kernel
theorem d156_21 : decode (xcode 156) 21 = .ok (.getfield 158, 3) := by decide +kernel
theorem d156_24 : decode (xcode 156) 24 = .ok (.iconst 1, 1) := by decide +kernel
theorem d156_25 : decode (xcode 156) 25 = .ok (.iadd, 1) := by decide +kernel
theorem d156_26 : decode (xcode 156) 26 = .ok (.putfield 158, 3) := by decide +kernel
theorem d156_29 : decode (xcode 156) 29 = .ok (.aload_n 0, 1) := by decide +kernel
theorem d156_30 : decode (xcode 156) 30 = .ok (.getfield 29, 3) := by decide +kernel
theorem d156_33 : decode (xcode 156) 33 = .ok (.aload_n 0, 1) := by decide +kernel
theorem d156_34 : decode (xcode 156) 34 = .ok (.getfield 161, 3) := by decide +kernel
theorem d156_37 : decode (xcode 156) 37 = .ok (.iload_n 1, 1) := by decide +kernel
theorem d156_38 : decode (xcode 156) 38 = .ok (.iastore, 1) := by decide +kernel
theorem d156_39 : decode (xcode 156) 39 = .ok (.aload_n 0, 1) := by decide +kernel
theorem d156_40 : decode (xcode 156) 40 = .ok (.dup, 1) := by decide +kernel
theorem d156_41 : decode (xcode 156) 41 = .ok (.getfield 161, 3) := by decide +kernel
theorem d156_44 : decode (xcode 156) 44 = .ok (.iconst 1, 1) := by decide +kernel
theorem d156_45 : decode (xcode 156) 45 = .ok (.iadd, 1) := by decide +kernel
theorem d156_46 : decode (xcode 156) 46 = .ok (.putfield 161, 3) := by decide +kernel
theorem d156_49 : decode (xcode 156) 49 = .ok (.iconst 1, 1) := by decide +kernel
theorem d156_50 : decode (xcode 156) 50 = .ok (.ireturn, 1) := by decide +kernel
noncomputable def f_M_opens_e (v1 : Int32) (h : xH) : Option (Int32 × xH) :=
  if (h.1 12 13 0) = (10 : Int32) then (
  (f_M_fails (2 : Int32) (h.1 12 8 0) h).bind fun q4 =>
  if q4.1 = 0 ∨ q4.1 = 1 then (
  some ((q4.1, q4.2))) else none) else (
  xlet (xsI h 12 13 0 ((h.1 12 13 0) + (1 : Int32))) fun h6 =>
  if xib (h6.1 12 16 0) 400 then (
  xlet (xsA h6 53 0 (upd (h6.2.2.2.1 53 0) (h6.1 12 16 0).toNatClampNeg v1)) fun h8 =>
  xlet (xsI h8 12 16 0 ((h8.1 12 16 0) + (1 : Int32))) fun h9 =>
  some (((1 : Int32), h9))) else none)
set_option maxHeartbeats 4000000 in
set_option maxRecDepth 100000 in
theorem f_M_opens_e_ok {g : xG} {l : Launch} {d : Nat} {v1 : Int32} {h : xH} {o : (Int32 × xH)} {R : Option xV} {H' : xH} (hD : 1 ≤ d) (hf : f_M_opens_e v1 h = some o) (K0 : ∀ (a : Int32) (h1 : xH), o = (a, h1) → R = some (xi a) ∧ H' = h1) : xEv g l d 156 0 [(0, xr 12 (some 0)), (1, xi v1)] [] h R H' := by
  unfold f_M_opens_e at hf
  refine xs_aload_n d156_0 rfl ?_
  refine xe_geti d156_1 ky156 fl174 fk12_13 ?_
  refine xs_bipush (v := 10) d156_4 (by decide) ?_
  rcases lk_if hf with ⟨hc1, hf⟩ | ⟨hc1, hf⟩
  · refine xs_icmp_ne (tgt := 19) d156_6 (by decide) (fun _ => ?_) (fun hn => absurd hc1 hn)
    refine xs_aload_n d156_9 rfl ?_
    refine xs_iconst (v := 2) d156_10 (by decide) ?_
    refine xs_aload_n d156_11 rfl ?_
    refine xe_geti d156_12 ky156 fl169 fk12_8 ?_
    obtain ⟨q4, hc3, hf⟩ := lk_b hf
    refine xe_callv1 (as := [xi (2 : Int32), xi (h.1 12 8 0)]) (st := []) (h2 := q4.2) (d2 := d - 1) d156_15 ky156 ml189 st145 (by decide) cn145 rfl na145 (Nat.le_of_ble_eq_true rfl) (by omega) (f_M_fails_ok (by omega) hc3) ?_
    obtain ⟨hz5, hf⟩ := lk_g hf
    obtain ⟨eR, eH⟩ := K0 _ _ (Option.some.inj hf).symm
    subst eR; subst eH
    exact xe_zret d156_18 hz5 rt156
  · refine xs_icmp_ne (tgt := 19) d156_6 (by decide) (fun hp => absurd hp hc1) (fun _ => ?_)
    refine xs_aload_n d156_19 rfl ?_
    refine xs_dup d156_20 rfl ?_
    refine xe_geti d156_21 ky156 fl174 fk12_13 ?_
    refine xs_iconst (v := 1) d156_24 (by decide) ?_
    refine xs_iadd d156_25 ?_
    obtain ⟨h6, eh6, hf⟩ := lk_let hf
    refine xe_puti d156_26 ky156 fl174 fk12_13 ft12_13 eh6 ?_
    refine xs_aload_n d156_29 rfl ?_
    refine xe_getc (j := 0) d156_30 ky156 fl176 fk12_15 rfl ?_
    refine xs_aload_n d156_33 rfl ?_
    refine xe_geti d156_34 ky156 fl177 fk12_16 ?_
    refine xs_iload_n d156_37 rfl ?_
    obtain ⟨hin7, hf⟩ := lk_g hf
    obtain ⟨h8, eh8, hf⟩ := lk_let hf
    refine xe_iast d156_38 (by decide) ak53 hin7  eh8 ?_
    refine xs_aload_n d156_39 rfl ?_
    refine xs_dup d156_40 rfl ?_
    refine xe_geti d156_41 ky156 fl177 fk12_16 ?_
    refine xs_iconst (v := 1) d156_44 (by decide) ?_
    refine xs_iadd d156_45 ?_
    obtain ⟨h9, eh9, hf⟩ := lk_let hf
    refine xe_puti d156_46 ky156 fl177 fk12_16 ft12_16 eh9 ?_
    refine xs_iconst (v := 1) d156_49 (by decide) ?_
    obtain ⟨eR, eH⟩ := K0 _ _ (Option.some.inj hf).symm
    subst eR; subst eH
    exact xe_zret d156_50 (Or.inr rfl) rt156
noncomputable def f_M_opens (v1 : Int32) (h : xH) : Option (Int32 × xH) := f_M_opens_e v1 h
theorem f_M_opens_ok {g : xG} {l : Launch} {d : Nat} {v1 : Int32} {h : xH} {r : Int32} {h1 : xH} (hD : 1 ≤ d) (hf : f_M_opens v1 h = some (r, h1)) : xC g l d 156 [xr 12 (some 0), xi v1] h (some (xi r)) h1 :=
  xC_of2 (by decide) mx156 (Nat.le_of_ble_eq_true rfl) (f_M_opens_e_ok hD hf (fun _ _ e => by cases e; exact ⟨rfl, rfl⟩))
theorem d157_0 : decode (xcode 157) 0 = .ok (.iload_n 0, 1) := by decide +kernel
theorem d157_1 : decode (xcode 157) 1 = .ok (.bipush 13, 2) := by decide +kernel
theorem d157_3 : decode (xcode 157) 3 = .ok (.if_icmp .ne 7, 3) := by decide +kernel
theorem d157_6 : decode (xcode 157) 6 = .ok (.iconst 1, 1) := by decide +kernel
theorem d157_7 : decode (xcode 157) 7 = .ok (.goto 24, 3) := by decide +kernel
theorem d157_10 : decode (xcode 157) 10 = .ok (.iload_n 0, 1) := by decide +kernel
theorem d157_11 : decode (xcode 157) 11 = .ok (.bipush 12, 2) := by decide +kernel
theorem d157_13 : decode (xcode 157) 13 = .ok (.if_icmp .ne 7, 3) := by decide +kernel
theorem d157_16 : decode (xcode 157) 16 = .ok (.iconst 2, 1) := by decide +kernel
theorem d157_17 : decode (xcode 157) 17 = .ok (.goto 14, 3) := by decide +kernel
theorem d157_20 : decode (xcode 157) 20 = .ok (.iload_n 0, 1) := by decide +kernel
theorem d157_21 : decode (xcode 157) 21 = .ok (.bipush 11, 2) := by decide +kernel
theorem d157_23 : decode (xcode 157) 23 = .ok (.if_icmp .ne 7, 3) := by decide +kernel
theorem d157_26 : decode (xcode 157) 26 = .ok (.iconst 3, 1) := by decide +kernel
theorem d157_27 : decode (xcode 157) 27 = .ok (.goto 4, 3) := by decide +kernel
theorem d157_30 : decode (xcode 157) 30 = .ok (.iconst 0, 1) := by decide +kernel
theorem d157_31 : decode (xcode 157) 31 = .ok (.ireturn, 1) := by decide +kernel
noncomputable def f_M_strength_e (v0 : Int32) (h : xH) : Option Int32 :=
  if v0 = (13 : Int32) then (
  some ((1 : Int32))) else (
  if v0 = (12 : Int32) then (
  some ((2 : Int32))) else (
  if v0 = (11 : Int32) then (
  some ((3 : Int32))) else (
  some ((0 : Int32)))))
set_option maxHeartbeats 4000000 in
set_option maxRecDepth 100000 in
theorem f_M_strength_e_ok {g : xG} {l : Launch} {d : Nat} {v0 : Int32} {h : xH} {o : Int32} {R : Option xV} (hD : 0 ≤ d) (hf : f_M_strength_e v0 h = some o) (K0 : ∀ (a : Int32), o = a → R = some (xi a)) : xEv g l d 157 0 [(0, xi v0)] [] h R h := by
  unfold f_M_strength_e at hf
  refine xs_iload_n d157_0 rfl ?_
  refine xs_bipush (v := 13) d157_1 (by decide) ?_
  rcases lk_if hf with ⟨hc1, hf⟩ | ⟨hc1, hf⟩
  · refine xs_icmp_ne (tgt := 10) d157_3 (by decide) (fun _ => ?_) (fun hn => absurd hc1 hn)
    refine xs_iconst (v := 1) d157_6 (by decide) ?_
    refine xs_goto (tgt := 31) d157_7 (by decide) ?_
    obtain eR := K0 _ (Option.some.inj hf).symm
    subst eR
    exact xs_iret d157_31 rt157
  · refine xs_icmp_ne (tgt := 10) d157_3 (by decide) (fun hp => absurd hp hc1) (fun _ => ?_)
    refine xs_iload_n d157_10 rfl ?_
    refine xs_bipush (v := 12) d157_11 (by decide) ?_
    rcases lk_if hf with ⟨hc2, hf⟩ | ⟨hc2, hf⟩
    · refine xs_icmp_ne (tgt := 20) d157_13 (by decide) (fun _ => ?_) (fun hn => absurd hc2 hn)
      refine xs_iconst (v := 2) d157_16 (by decide) ?_
      refine xs_goto (tgt := 31) d157_17 (by decide) ?_
      obtain eR := K0 _ (Option.some.inj hf).symm
      subst eR
      exact xs_iret d157_31 rt157
    · refine xs_icmp_ne (tgt := 20) d157_13 (by decide) (fun hp => absurd hp hc2) (fun _ => ?_)
      refine xs_iload_n d157_20 rfl ?_
      refine xs_bipush (v := 11) d157_21 (by decide) ?_
      rcases lk_if hf with ⟨hc3, hf⟩ | ⟨hc3, hf⟩
      · refine xs_icmp_ne (tgt := 30) d157_23 (by decide) (fun _ => ?_) (fun hn => absurd hc3 hn)
        refine xs_iconst (v := 3) d157_26 (by decide) ?_
        refine xs_goto (tgt := 31) d157_27 (by decide) ?_
        obtain eR := K0 _ (Option.some.inj hf).symm
        subst eR
        exact xs_iret d157_31 rt157
      · refine xs_icmp_ne (tgt := 30) d157_23 (by decide) (fun hp => absurd hp hc3) (fun _ => ?_)
        refine xs_iconst (v := 0) d157_30 (by decide) ?_
        obtain eR := K0 _ (Option.some.inj hf).symm
        subst eR
        exact xs_iret d157_31 rt157
noncomputable def f_M_strength (v0 : Int32) (h : xH) : Option Int32 := f_M_strength_e v0 h
theorem f_M_strength_ok {g : xG} {l : Launch} {d : Nat} {v0 : Int32} {h : xH} {r : Int32} (hD : 0 ≤ d) (hf : f_M_strength v0 h = some r) : xC g l d 157 [xi v0] h (some (xi r)) h :=
  xC_of2 (by decide) mx157 (Nat.le_of_ble_eq_true rfl) (f_M_strength_e_ok hD hf (fun _ e => by rw [e]))
theorem d158_0 : decode (xcode 158) 0 = .ok (.aload_n 0, 1) := by decide +kernel
theorem d158_1 : decode (xcode 158) 1 = .ok (.getfield 161, 3) := by decide +kernel
theorem d158_4 : decode (xcode 158) 4 = .ok (.ifCond .le 72, 3) := by decide +kernel
theorem d158_7 : decode (xcode 158) 7 = .ok (.aload_n 0, 1) := by decide +kernel
theorem d158_8 : decode (xcode 158) 8 = .ok (.getfield 29, 3) := by decide +kernel
theorem d158_11 : decode (xcode 158) 11 = .ok (.aload_n 0, 1) := by decide +kernel
theorem d158_12 : decode (xcode 158) 12 = .ok (.getfield 161, 3) := by decide +kernel
theorem d158_15 : decode (xcode 158) 15 = .ok (.iconst 1, 1) := by decide +kernel
theorem d158_16 : decode (xcode 158) 16 = .ok (.isub, 1) := by decide +kernel
theorem d158_17 : decode (xcode 158) 17 = .ok (.iaload, 1) := by decide +kernel
theorem d158_18 : decode (xcode 158) 18 = .ok (.invokestatic 164, 3) := by decide +kernel
theorem d158_21 : decode (xcode 158) 21 = .ok (.iload_n 1, 1) := by decide +kernel
theorem d158_22 : decode (xcode 158) 22 = .ok (.if_icmp .lt 54, 3) := by decide +kernel
theorem d158_25 : decode (xcode 158) 25 = .ok (.aload_n 0, 1) := by decide +kernel
theorem d158_26 : decode (xcode 158) 26 = .ok (.dup, 1) := by decide +kernel
theorem d158_27 : decode (xcode 158) 27 = .ok (.getfield 161, 3) := by decide +kernel
theorem d158_30 : decode (xcode 158) 30 = .ok (.iconst 1, 1) := by decide +kernel
theorem d158_31 : decode (xcode 158) 31 = .ok (.isub, 1) := by decide +kernel
theorem d158_32 : decode (xcode 158) 32 = .ok (.putfield 161, 3) := by decide +kernel
theorem d158_35 : decode (xcode 158) 35 = .ok (.aload_n 0, 1) := by decide +kernel
theorem d158_36 : decode (xcode 158) 36 = .ok (.aload_n 0, 1) := by decide +kernel
theorem d158_37 : decode (xcode 158) 37 = .ok (.getfield 29, 3) := by decide +kernel
theorem d158_40 : decode (xcode 158) 40 = .ok (.aload_n 0, 1) := by decide +kernel
theorem d158_41 : decode (xcode 158) 41 = .ok (.getfield 161, 3) := by decide +kernel
theorem d158_44 : decode (xcode 158) 44 = .ok (.iaload, 1) := by decide +kernel
theorem d158_45 : decode (xcode 158) 45 = .ok (.iconst 0, 1) := by decide +kernel
theorem d158_46 : decode (xcode 158) 46 = .ok (.invokevirtual 168, 3) := by decide +kernel
theorem d158_49 : decode (xcode 158) 49 = .ok (.aload_n 0, 1) := by decide +kernel
theorem d158_50 : decode (xcode 158) 50 = .ok (.getfield 29, 3) := by decide +kernel
theorem d158_53 : decode (xcode 158) 53 = .ok (.aload_n 0, 1) := by decide +kernel
theorem d158_54 : decode (xcode 158) 54 = .ok (.getfield 161, 3) := by decide +kernel
theorem d158_57 : decode (xcode 158) 57 = .ok (.iaload, 1) := by decide +kernel
theorem d158_58 : decode (xcode 158) 58 = .ok (.bipush 11, 2) := by decide +kernel
theorem d158_60 : decode (xcode 158) 60 = .ok (.if_icmp .ne (-60), 3) := by decide +kernel
theorem d158_63 : decode (xcode 158) 63 = .ok (.aload_n 0, 1) := by decide +kernel
theorem d158_64 : decode (xcode 158) 64 = .ok (.dup, 1) := by decide +kernel
theorem d158_65 : decode (xcode 158) 65 = .ok (.getfield 158, 3) := by decide +kernel
theorem d158_68 : decode (xcode 158) 68 = .ok (.iconst 1, 1) := by decide +kernel
theorem d158_69 : decode (xcode 158) 69 = .ok (.isub, 1) := by decide +kernel
theorem d158_70 : decode (xcode 158) 70 = .ok (.putfield 158, 3) := by decide +kernel
theorem d158_73 : decode (xcode 158) 73 = .ok (.goto (-73), 3) := by decide +kernel
theorem d158_76 : decode (xcode 158) 76 = .ok (.return_, 1) := by decide +kernel
noncomputable def f_M_layDown_s0 (v1 : Int32) (h : xH) : Option ((xH) ⊕ xH) :=
  if (h.1 12 16 0) ≤ (0 : Int32) then (
  some (Sum.inr (h))) else (
  if xib ((h.1 12 16 0) - (1 : Int32)) 400 then (
  (f_M_strength (h.2.2.2.1 53 0 ((h.1 12 16 0) - (1 : Int32)).toNatClampNeg) h).bind fun r3 =>
  if r3 < v1 then (
  some (Sum.inr (h))) else (
  xlet (xsI h 12 16 0 ((h.1 12 16 0) - (1 : Int32))) fun h6 =>
  if xib (h6.1 12 16 0) 400 then (
  (f_M_puts (h6.2.2.2.1 53 0 (h6.1 12 16 0).toNatClampNeg) (0 : Int32) h6).bind fun h10 =>
  if xib (h10.1 12 16 0) 400 then (
  if (h10.2.2.2.1 53 0 (h10.1 12 16 0).toNatClampNeg) = (11 : Int32) then (
  xlet (xsI h10 12 13 0 ((h10.1 12 13 0) - (1 : Int32))) fun h13 =>
  some (Sum.inl h13)) else (
  some (Sum.inl h10))) else none) else none)) else none)
set_option maxHeartbeats 4000000 in
set_option maxRecDepth 100000 in
theorem f_M_layDown_s0_ok {g : xG} {l : Launch} {d : Nat} {v1 : Int32} {h : xH} {o : ((xH) ⊕ xH)} {R : Option xV} {H' : xH} (hD : 1 ≤ d) (hf : f_M_layDown_s0 v1 h = some o) (K1 : ∀ (h1 : xH), o = Sum.inl h1 → xEv g l d 158 0 [(0, xr 12 (some 0)), (1, xi v1)] [] h1 R H') (K0 : ∀ (h1 : xH), o = Sum.inr (h1) → R = none ∧ H' = h1) : xEv g l d 158 0 [(0, xr 12 (some 0)), (1, xi v1)] [] h R H' := by
  unfold f_M_layDown_s0 at hf
  refine xs_aload_n d158_0 rfl ?_
  refine xe_geti d158_1 ky158 fl177 fk12_16 ?_
  rcases lk_if hf with ⟨hc1, hf⟩ | ⟨hc1, hf⟩
  · refine xs_if_le (tgt := 76) d158_4 (by decide) (fun _ => ?_) (fun hn => absurd hc1 hn)
    obtain ⟨eR, eH⟩ := K0 _ (Option.some.inj hf).symm
    subst eR; subst eH
    exact xs_vret d158_76 rt158
  · refine xs_if_le (tgt := 76) d158_4 (by decide) (fun hp => absurd hp hc1) (fun _ => ?_)
    refine xs_aload_n d158_7 rfl ?_
    refine xe_getc (j := 0) d158_8 ky158 fl176 fk12_15 rfl ?_
    refine xs_aload_n d158_11 rfl ?_
    refine xe_geti d158_12 ky158 fl177 fk12_16 ?_
    refine xs_iconst (v := 1) d158_15 (by decide) ?_
    refine xs_isub d158_16 ?_
    obtain ⟨hin2, hf⟩ := lk_g hf
    refine xe_iald d158_17 (by decide) ak53 hin2 ?_
    obtain ⟨r3, hc4, hf⟩ := lk_b hf
    refine xe_calls1 (as := [xi (h.2.2.2.1 53 0 ((h.1 12 16 0) - (1 : Int32)).toNatClampNeg)]) (st := []) (h2 := h) (d2 := d - 1) d158_18 ky158 ml214 st157 rfl na157 (Nat.le_of_ble_eq_true rfl) (by omega) (f_M_strength_ok (by omega) hc4) ?_
    refine xs_iload_n d158_21 rfl ?_
    rcases lk_if hf with ⟨hc5, hf⟩ | ⟨hc5, hf⟩
    · refine xs_icmp_lt (tgt := 76) d158_22 (by decide) (fun _ => ?_) (fun hn => absurd hc5 hn)
      obtain ⟨eR, eH⟩ := K0 _ (Option.some.inj hf).symm
      subst eR; subst eH
      exact xs_vret d158_76 rt158
    · refine xs_icmp_lt (tgt := 76) d158_22 (by decide) (fun hp => absurd hp hc5) (fun _ => ?_)
      refine xs_aload_n d158_25 rfl ?_
      refine xs_dup d158_26 rfl ?_
      refine xe_geti d158_27 ky158 fl177 fk12_16 ?_
      refine xs_iconst (v := 1) d158_30 (by decide) ?_
      refine xs_isub d158_31 ?_
      obtain ⟨h6, eh6, hf⟩ := lk_let hf
      refine xe_puti d158_32 ky158 fl177 fk12_16 ft12_16 eh6 ?_
      refine xs_aload_n d158_35 rfl ?_
      refine xs_aload_n d158_36 rfl ?_
      refine xe_getc (j := 0) d158_37 ky158 fl176 fk12_15 rfl ?_
      refine xs_aload_n d158_40 rfl ?_
      refine xe_geti d158_41 ky158 fl177 fk12_16 ?_
      obtain ⟨hin7, hf⟩ := lk_g hf
      refine xe_iald d158_44 (by decide) ak53 hin7 ?_
      refine xs_iconst (v := 0) d158_45 (by decide) ?_
      obtain ⟨h10, hc9, hf⟩ := lk_b hf
      refine xe_callv0 (as := [xi (h6.2.2.2.1 53 0 (h6.1 12 16 0).toNatClampNeg), xi (0 : Int32)]) (st := []) (h2 := h10) (d2 := d - 1) d158_46 ky158 ml205 st154 (by decide) cn154 rfl na154 (Nat.le_of_ble_eq_true rfl) (by omega) (f_M_puts_ok (by omega) hc9) ?_
      refine xs_aload_n d158_49 rfl ?_
      refine xe_getc (j := 0) d158_50 ky158 fl176 fk12_15 rfl ?_
      refine xs_aload_n d158_53 rfl ?_
      refine xe_geti d158_54 ky158 fl177 fk12_16 ?_
      obtain ⟨hin11, hf⟩ := lk_g hf
      refine xe_iald d158_57 (by decide) ak53 hin11 ?_
      refine xs_bipush (v := 11) d158_58 (by decide) ?_
      rcases lk_if hf with ⟨hc12, hf⟩ | ⟨hc12, hf⟩
      · refine xs_icmp_ne (tgt := 0) d158_60 (by decide) (fun _ => ?_) (fun hn => absurd hc12 hn)
        refine xs_aload_n d158_63 rfl ?_
        refine xs_dup d158_64 rfl ?_
        refine xe_geti d158_65 ky158 fl174 fk12_13 ?_
        refine xs_iconst (v := 1) d158_68 (by decide) ?_
        refine xs_isub d158_69 ?_
        obtain ⟨h13, eh13, hf⟩ := lk_let hf
        refine xe_puti d158_70 ky158 fl174 fk12_13 ft12_13 eh13 ?_
        refine xs_goto (tgt := 0) d158_73 (by decide) ?_
        exact K1 _ (Option.some.inj hf).symm
      · refine xs_icmp_ne (tgt := 0) d158_60 (by decide) (fun hp => absurd hp hc12) (fun _ => ?_)
        exact K1 _ (Option.some.inj hf).symm
noncomputable def f_M_layDown_l0 (v1 : Int32) (h : xH) : Option xH :=
  whl (fun s => f_M_layDown_s0 v1 s) h
theorem f_M_layDown_l0_ok {g : xG} {l : Launch} {d : Nat} {v1 : Int32} {h : xH} {o : xH} {R : Option xV} {H' : xH} (hD : 1 ≤ d) (hf : f_M_layDown_l0 v1 h = some o) (K0 : ∀ (h1 : xH), o = h1 → R = none ∧ H' = h1) : xEv g l d 158 0 [(0, xr 12 (some 0)), (1, xi v1)] [] h R H' := by
  obtain ⟨n, hn⟩ := whl_iff.mp hf
  clear hf
  induction n generalizing h with
  | zero => cases hn
  | succ n ih =>
    obtain ⟨o2, hs, hn⟩ := lk_b (show (f_M_layDown_s0 v1 h).bind (fun o => Sum.elim (itn _ n) some o) = some o from hn)
    exact f_M_layDown_s0_ok hD hs (fun u0 e => ih (by rw [e] at hn; exact hn)) (fun u0 e => K0 u0 (by rw [e] at hn; exact (Option.some.inj hn).symm))
noncomputable def f_M_layDown_e (v1 : Int32) (h : xH) : Option xH :=
  f_M_layDown_l0 v1 h
set_option maxHeartbeats 4000000 in
set_option maxRecDepth 100000 in
theorem f_M_layDown_e_ok {g : xG} {l : Launch} {d : Nat} {v1 : Int32} {h : xH} {o : xH} {R : Option xV} {H' : xH} (hD : 1 ≤ d) (hf : f_M_layDown_e v1 h = some o) (K0 : ∀ (h1 : xH), o = h1 → R = none ∧ H' = h1) : xEv g l d 158 0 [(0, xr 12 (some 0)), (1, xi v1)] [] h R H' := by
  unfold f_M_layDown_e at hf
  exact f_M_layDown_l0_ok hD hf K0
noncomputable def f_M_layDown (v1 : Int32) (h : xH) : Option xH := f_M_layDown_e v1 h
theorem f_M_layDown_ok {g : xG} {l : Launch} {d : Nat} {v1 : Int32} {h : xH} {h1 : xH} (hD : 1 ≤ d) (hf : f_M_layDown v1 h = some h1) : xC g l d 158 [xr 12 (some 0), xi v1] h none h1 :=
  xC_of2 (by decide) mx158 (Nat.le_of_ble_eq_true rfl) (f_M_layDown_e_ok hD hf (fun _ e => ⟨rfl, e⟩))
theorem d159_0 : decode (xcode 159) 0 = .ok (.aload_n 0, 1) := by decide +kernel
theorem d159_1 : decode (xcode 159) 1 = .ok (.invokevirtual 99, 3) := by decide +kernel
theorem d159_4 : decode (xcode 159) 4 = .ok (.pop, 1) := by decide +kernel
theorem d159_5 : decode (xcode 159) 5 = .ok (.aload_n 0, 1) := by decide +kernel
theorem d159_6 : decode (xcode 159) 6 = .ok (.getfield 96, 3) := by decide +kernel
theorem d159_9 : decode (xcode 159) 9 = .ok (.istore_n 1, 1) := by decide +kernel
theorem d159_10 : decode (xcode 159) 10 = .ok (.aload_n 0, 1) := by decide +kernel
theorem d159_11 : decode (xcode 159) 11 = .ok (.aload_n 0, 1) := by decide +kernel
theorem d159_12 : decode (xcode 159) 12 = .ok (.getfield 96, 3) := by decide +kernel
theorem d159_15 : decode (xcode 159) 15 = .ok (.invokevirtual 114, 3) := by decide +kernel
theorem d159_18 : decode (xcode 159) 18 = .ok (.ifCond .eq 34, 3) := by decide +kernel
theorem d159_21 : decode (xcode 159) 21 = .ok (.aload_n 0, 1) := by decide +kernel
theorem d159_22 : decode (xcode 159) 22 = .ok (.iconst 0, 1) := by decide +kernel
theorem d159_23 : decode (xcode 159) 23 = .ok (.ldc 172, 2) := by decide +kernel
theorem d159_25 : decode (xcode 159) 25 = .ok (.invokevirtual 173, 3) := by decide +kernel
theorem d159_28 : decode (xcode 159) 28 = .ok (.ifCond .eq 11, 3) := by decide +kernel
theorem d159_31 : decode (xcode 159) 31 = .ok (.aload_n 0, 1) := by decide +kernel
theorem d159_32 : decode (xcode 159) 32 = .ok (.iload_n 1, 1) := by decide +kernel
theorem d159_33 : decode (xcode 159) 33 = .ok (.invokevirtual 176, 3) := by decide +kernel
theorem d159_36 : decode (xcode 159) 36 = .ok (.ifCond .ne 5, 3) := by decide +kernel
theorem d159_39 : decode (xcode 159) 39 = .ok (.iconst 0, 1) := by decide +kernel
theorem d159_40 : decode (xcode 159) 40 = .ok (.ireturn, 1) := by decide +kernel
theorem d159_41 : decode (xcode 159) 41 = .ok (.aload_n 0, 1) := by decide +kernel
theorem d159_42 : decode (xcode 159) 42 = .ok (.iconst 0, 1) := by decide +kernel
theorem d159_43 : decode (xcode 159) 43 = .ok (.aload_n 0, 1) := by decide +kernel
theorem d159_44 : decode (xcode 159) 44 = .ok (.getfield 121, 3) := by decide +kernel
theorem d159_47 : decode (xcode 159) 47 = .ok (.invokevirtual 168, 3) := by decide +kernel
theorem d159_50 : decode (xcode 159) 50 = .ok (.iconst 1, 1) := by decide +kernel
theorem d159_51 : decode (xcode 159) 51 = .ok (.ireturn, 1) := by decide +kernel
theorem d159_52 : decode (xcode 159) 52 = .ok (.aload_n 0, 1) := by decide +kernel
theorem d159_53 : decode (xcode 159) 53 = .ok (.invokevirtual 179, 3) := by decide +kernel
theorem d159_56 : decode (xcode 159) 56 = .ok (.istore_n 2, 1) := by decide +kernel
theorem d159_57 : decode (xcode 159) 57 = .ok (.iload_n 2, 1) := by decide +kernel
theorem d159_58 : decode (xcode 159) 58 = .ok (.ifCond .ge 10, 3) := by decide +kernel
theorem d159_61 : decode (xcode 159) 61 = .ok (.aload_n 0, 1) := by decide +kernel
theorem d159_62 : decode (xcode 159) 62 = .ok (.iconst 0, 1) := by decide +kernel
theorem d159_63 : decode (xcode 159) 63 = .ok (.iload_n 1, 1) := by decide +kernel
theorem d159_64 : decode (xcode 159) 64 = .ok (.invokevirtual 117, 3) := by decide +kernel
theorem d159_67 : decode (xcode 159) 67 = .ok (.ireturn, 1) := by decide +kernel
theorem d159_68 : decode (xcode 159) 68 = .ok (.aload_n 0, 1) := by decide +kernel
theorem d159_69 : decode (xcode 159) 69 = .ok (.iload_n 1, 1) := by decide +kernel
theorem d159_70 : decode (xcode 159) 70 = .ok (.invokevirtual 176, 3) := by decide +kernel
theorem d159_73 : decode (xcode 159) 73 = .ok (.ifCond .ne 5, 3) := by decide +kernel
theorem d159_76 : decode (xcode 159) 76 = .ok (.iconst 0, 1) := by decide +kernel
theorem d159_77 : decode (xcode 159) 77 = .ok (.ireturn, 1) := by decide +kernel
theorem d159_78 : decode (xcode 159) 78 = .ok (.aload_n 0, 1) := by decide +kernel
theorem d159_79 : decode (xcode 159) 79 = .ok (.invokevirtual 111, 3) := by decide +kernel
theorem d159_82 : decode (xcode 159) 82 = .ok (.aload_n 0, 1) := by decide +kernel
theorem d159_83 : decode (xcode 159) 83 = .ok (.iconst 1, 1) := by decide +kernel
theorem d159_84 : decode (xcode 159) 84 = .ok (.iload_n 2, 1) := by decide +kernel
theorem d159_85 : decode (xcode 159) 85 = .ok (.invokevirtual 168, 3) := by decide +kernel
theorem d159_88 : decode (xcode 159) 88 = .ok (.iconst 1, 1) := by decide +kernel
theorem d159_89 : decode (xcode 159) 89 = .ok (.ireturn, 1) := by decide +kernel
noncomputable def f_M_value_e (h : xH) : Option (Int32 × xH) :=
  (f_M_see h).bind fun q3 =>
  xlet (q3.2.1 12 8 0) fun v1_4 =>
  (f_M_isDigit (q3.2.1 12 8 0) q3.2).bind fun r5 =>
  if r5 = (0 : Int32) then (
  (f_M_wordHere q3.2).bind fun q10 =>
  if (0 : Int32) ≤ q10.1 then (
  (f_M_makes v1_4 q10.2).bind fun q14 =>
  if q14.1 = (0 : Int32) then (
  some (((0 : Int32), q14.2))) else (
  (f_M_passWord q14.2).bind fun h18 =>
  (f_M_puts (1 : Int32) q10.1 h18).bind fun h21 =>
  some (((1 : Int32), h21)))) else (
  (f_M_fails (0 : Int32) v1_4 q10.2).bind fun q24 =>
  if q24.1 = 0 ∨ q24.1 = 1 then (
  some ((q24.1, q24.2))) else none)) else (
  (f_M_numberHere (0 : Int32) (99999 : Int32) q3.2).bind fun q28 =>
  if q28.1 = (0 : Int32) then (
  some (((0 : Int32), q28.2))) else (
  (f_M_makes v1_4 q28.2).bind fun q32 =>
  if q32.1 = (0 : Int32) then (
  some (((0 : Int32), q32.2))) else (
  (f_M_puts (0 : Int32) (q32.2.1 12 10 0) q32.2).bind fun h36 =>
  some (((1 : Int32), h36)))))
set_option maxHeartbeats 4000000 in
set_option maxRecDepth 100000 in
theorem f_M_value_e_ok {g : xG} {l : Launch} {d : Nat} {h : xH} {o : (Int32 × xH)} {R : Option xV} {H' : xH} (hD : 3 ≤ d) (hf : f_M_value_e h = some o) (K0 : ∀ (a : Int32) (h1 : xH), o = (a, h1) → R = some (xi a) ∧ H' = h1) : xEv g l d 159 0 [(0, xr 12 (some 0))] [] h R H' := by
  unfold f_M_value_e at hf
  refine xs_aload_n d159_0 rfl ?_
  obtain ⟨q3, hc2, hf⟩ := lk_b hf
  refine xe_callv1 (as := []) (st := []) (h2 := q3.2) (d2 := d - 1) d159_1 ky159 ml185 st146 (by decide) cn146 rfl na146 (Nat.le_of_ble_eq_true rfl) (by omega) (f_M_see_ok (by omega) hc2) ?_
  refine xs_pop d159_4 rfl ?_
  refine xs_aload_n d159_5 rfl ?_
  refine xe_geti d159_6 ky159 fl169 fk12_8 ?_
  obtain ⟨v1_4, ev1_4, hf⟩ := lk_let hf
  refine xe_istore_n (v := v1_4) (ls2 := [(0, xr 12 (some 0)), (1, xi v1_4)]) d159_9 mx159 (by decide) ev1_4 rfl ?_
  refine xs_aload_n d159_10 rfl ?_
  refine xs_aload_n d159_11 rfl ?_
  refine xe_geti d159_12 ky159 fl169 fk12_8 ?_
  obtain ⟨r5, hc6, hf⟩ := lk_b hf
  refine xe_callv1 (as := [xi (q3.2.1 12 8 0)]) (st := []) (h2 := q3.2) (d2 := d - 1) d159_15 ky159 ml195 st147 (by decide) cn147 rfl na147 (Nat.le_of_ble_eq_true rfl) (by omega) (f_M_isDigit_ok (by omega) hc6) ?_
  rcases lk_if hf with ⟨hc7, hf⟩ | ⟨hc7, hf⟩
  · refine xs_if_eq (tgt := 52) d159_18 (by decide) (fun _ => ?_) (fun hn => absurd hc7 hn)
    refine xs_aload_n d159_52 rfl ?_
    obtain ⟨q10, hc9, hf⟩ := lk_b hf
    refine xe_callv1 (as := []) (st := []) (h2 := q10.2) (d2 := d - 1) d159_53 ky159 ml206 st153 (by decide) cn153 rfl na153 (Nat.le_of_ble_eq_true rfl) (by omega) (f_M_wordHere_ok (by omega) hc9) ?_
    refine xe_istore_n (v := q10.1) (ls2 := [(0, xr 12 (some 0)), (1, xi v1_4), (2, xi q10.1)]) d159_56 mx159 (by decide) rfl rfl ?_
    refine xs_iload_n d159_57 rfl ?_
    rcases lk_if hf with ⟨hc11, hf⟩ | ⟨hc11, hf⟩
    · refine xs_if_ge (tgt := 68) d159_58 (by decide) (fun _ => ?_) (fun hn => absurd hc11 hn)
      refine xs_aload_n d159_68 rfl ?_
      refine xs_iload_n d159_69 rfl ?_
      obtain ⟨q14, hc13, hf⟩ := lk_b hf
      refine xe_callv1 (as := [xi v1_4]) (st := []) (h2 := q14.2) (d2 := d - 1) d159_70 ky159 ml204 st155 (by decide) cn155 rfl na155 (Nat.le_of_ble_eq_true rfl) (by omega) (f_M_makes_ok (by omega) hc13) ?_
      rcases lk_if hf with ⟨hc15, hf⟩ | ⟨hc15, hf⟩
      · refine xs_if_ne (tgt := 78) d159_73 (by decide) (fun _ => ?_) (fun hn => absurd hc15 hn)
        refine xs_iconst (v := 0) d159_76 (by decide) ?_
        obtain ⟨eR, eH⟩ := K0 _ _ (Option.some.inj hf).symm
        subst eR; subst eH
        exact xe_zret d159_77 (Or.inl rfl) rt159
      · refine xs_if_ne (tgt := 78) d159_73 (by decide) (fun hp => absurd hp hc15) (fun _ => ?_)
        refine xs_aload_n d159_78 rfl ?_
        obtain ⟨h18, hc17, hf⟩ := lk_b hf
        refine xe_callv0 (as := []) (st := []) (h2 := h18) (d2 := d - 1) d159_79 ky159 ml192 st150 (by decide) cn150 rfl na150 (Nat.le_of_ble_eq_true rfl) (by omega) (f_M_passWord_ok (by omega) hc17) ?_
        refine xs_aload_n d159_82 rfl ?_
        refine xs_iconst (v := 1) d159_83 (by decide) ?_
        refine xs_iload_n d159_84 rfl ?_
        obtain ⟨h21, hc20, hf⟩ := lk_b hf
        refine xe_callv0 (as := [xi (1 : Int32), xi q10.1]) (st := []) (h2 := h21) (d2 := d - 1) d159_85 ky159 ml205 st154 (by decide) cn154 rfl na154 (Nat.le_of_ble_eq_true rfl) (by omega) (f_M_puts_ok (by omega) hc20) ?_
        refine xs_iconst (v := 1) d159_88 (by decide) ?_
        obtain ⟨eR, eH⟩ := K0 _ _ (Option.some.inj hf).symm
        subst eR; subst eH
        exact xe_zret d159_89 (Or.inr rfl) rt159
    · refine xs_if_ge (tgt := 68) d159_58 (by decide) (fun hp => absurd hp hc11) (fun _ => ?_)
      refine xs_aload_n d159_61 rfl ?_
      refine xs_iconst (v := 0) d159_62 (by decide) ?_
      refine xs_iload_n d159_63 rfl ?_
      obtain ⟨q24, hc23, hf⟩ := lk_b hf
      refine xe_callv1 (as := [xi (0 : Int32), xi v1_4]) (st := []) (h2 := q24.2) (d2 := d - 1) d159_64 ky159 ml189 st145 (by decide) cn145 rfl na145 (Nat.le_of_ble_eq_true rfl) (by omega) (f_M_fails_ok (by omega) hc23) ?_
      obtain ⟨hz25, hf⟩ := lk_g hf
      obtain ⟨eR, eH⟩ := K0 _ _ (Option.some.inj hf).symm
      subst eR; subst eH
      exact xe_zret d159_67 hz25 rt159
  · refine xs_if_eq (tgt := 52) d159_18 (by decide) (fun hp => absurd hp hc7) (fun _ => ?_)
    refine xs_aload_n d159_21 rfl ?_
    refine xs_iconst (v := 0) d159_22 (by decide) ?_
    refine xs_ldc (v := 99999) d159_23 cs12_172 ?_
    obtain ⟨q28, hc27, hf⟩ := lk_b hf
    refine xe_callv1 (as := [xi (0 : Int32), xi (99999 : Int32)]) (st := []) (h2 := q28.2) (d2 := d - 1) d159_25 ky159 ml194 st152 (by decide) cn152 rfl na152 (Nat.le_of_ble_eq_true rfl) (by omega) (f_M_numberHere_ok (by omega) hc27) ?_
    rcases lk_if hf with ⟨hc29, hf⟩ | ⟨hc29, hf⟩
    · refine xs_if_eq (tgt := 39) d159_28 (by decide) (fun _ => ?_) (fun hn => absurd hc29 hn)
      refine xs_iconst (v := 0) d159_39 (by decide) ?_
      obtain ⟨eR, eH⟩ := K0 _ _ (Option.some.inj hf).symm
      subst eR; subst eH
      exact xe_zret d159_40 (Or.inl rfl) rt159
    · refine xs_if_eq (tgt := 39) d159_28 (by decide) (fun hp => absurd hp hc29) (fun _ => ?_)
      refine xs_aload_n d159_31 rfl ?_
      refine xs_iload_n d159_32 rfl ?_
      obtain ⟨q32, hc31, hf⟩ := lk_b hf
      refine xe_callv1 (as := [xi v1_4]) (st := []) (h2 := q32.2) (d2 := d - 1) d159_33 ky159 ml204 st155 (by decide) cn155 rfl na155 (Nat.le_of_ble_eq_true rfl) (by omega) (f_M_makes_ok (by omega) hc31) ?_
      rcases lk_if hf with ⟨hc33, hf⟩ | ⟨hc33, hf⟩
      · refine xs_if_ne (tgt := 41) d159_36 (by decide) (fun _ => ?_) (fun hn => absurd hc33 hn)
        refine xs_iconst (v := 0) d159_39 (by decide) ?_
        obtain ⟨eR, eH⟩ := K0 _ _ (Option.some.inj hf).symm
        subst eR; subst eH
        exact xe_zret d159_40 (Or.inl rfl) rt159
      · refine xs_if_ne (tgt := 41) d159_36 (by decide) (fun hp => absurd hp hc33) (fun _ => ?_)
        refine xs_aload_n d159_41 rfl ?_
        refine xs_iconst (v := 0) d159_42 (by decide) ?_
        refine xs_aload_n d159_43 rfl ?_
        refine xe_geti d159_44 ky159 fl171 fk12_10 ?_
        obtain ⟨h36, hc35, hf⟩ := lk_b hf
        refine xe_callv0 (as := [xi (0 : Int32), xi (q32.2.1 12 10 0)]) (st := []) (h2 := h36) (d2 := d - 1) d159_47 ky159 ml205 st154 (by decide) cn154 rfl na154 (Nat.le_of_ble_eq_true rfl) (by omega) (f_M_puts_ok (by omega) hc35) ?_
        refine xs_iconst (v := 1) d159_50 (by decide) ?_
        obtain ⟨eR, eH⟩ := K0 _ _ (Option.some.inj hf).symm
        subst eR; subst eH
        exact xe_zret d159_51 (Or.inr rfl) rt159
noncomputable def f_M_value (h : xH) : Option (Int32 × xH) := f_M_value_e h
theorem f_M_value_ok {g : xG} {l : Launch} {d : Nat} {h : xH} {r : Int32} {h1 : xH} (hD : 3 ≤ d) (hf : f_M_value h = some (r, h1)) : xC g l d 159 [xr 12 (some 0)] h (some (xi r)) h1 :=
  xC_of2 (by decide) mx159 (Nat.le_of_ble_eq_true rfl) (f_M_value_e_ok hD hf (fun _ _ e => by cases e; exact ⟨rfl, rfl⟩))
theorem d160_0 : decode (xcode 160) 0 = .ok (.aload_n 0, 1) := by decide +kernel
theorem d160_1 : decode (xcode 160) 1 = .ok (.invokevirtual 182, 3) := by decide +kernel
theorem d160_4 : decode (xcode 160) 4 = .ok (.ifCond .ne 5, 3) := by decide +kernel
theorem d160_7 : decode (xcode 160) 7 = .ok (.iconst 0, 1) := by decide +kernel
theorem d160_8 : decode (xcode 160) 8 = .ok (.ireturn, 1) := by decide +kernel
theorem d160_9 : decode (xcode 160) 9 = .ok (.aload_n 0, 1) := by decide +kernel
theorem d160_10 : decode (xcode 160) 10 = .ok (.invokevirtual 99, 3) := by decide +kernel
theorem d160_13 : decode (xcode 160) 13 = .ok (.bipush 42, 2) := by decide +kernel
theorem d160_15 : decode (xcode 160) 15 = .ok (.if_icmp .eq 21, 3) := by decide +kernel
theorem d160_18 : decode (xcode 160) 18 = .ok (.aload_n 0, 1) := by decide +kernel
theorem d160_19 : decode (xcode 160) 19 = .ok (.invokevirtual 99, 3) := by decide +kernel
theorem d160_22 : decode (xcode 160) 22 = .ok (.bipush 47, 2) := by decide +kernel
theorem d160_24 : decode (xcode 160) 24 = .ok (.if_icmp .eq 12, 3) := by decide +kernel
theorem d160_27 : decode (xcode 160) 27 = .ok (.aload_n 0, 1) := by decide +kernel
theorem d160_28 : decode (xcode 160) 28 = .ok (.invokevirtual 99, 3) := by decide +kernel
theorem d160_31 : decode (xcode 160) 31 = .ok (.bipush 37, 2) := by decide +kernel
theorem d160_33 : decode (xcode 160) 33 = .ok (.if_icmp .ne 70, 3) := by decide +kernel
theorem d160_36 : decode (xcode 160) 36 = .ok (.aload_n 0, 1) := by decide +kernel
theorem d160_37 : decode (xcode 160) 37 = .ok (.getfield 7, 3) := by decide +kernel
theorem d160_40 : decode (xcode 160) 40 = .ok (.aload_n 0, 1) := by decide +kernel
theorem d160_41 : decode (xcode 160) 41 = .ok (.getfield 96, 3) := by decide +kernel
theorem d160_44 : decode (xcode 160) 44 = .ok (.baload, 1) := by decide +kernel
theorem d160_45 : decode (xcode 160) 45 = .ok (.bipush 42, 2) := by decide +kernel
theorem d160_47 : decode (xcode 160) 47 = .ok (.if_icmp .ne 7, 3) := by decide +kernel
theorem d160_50 : decode (xcode 160) 50 = .ok (.iconst 4, 1) := by decide +kernel
theorem d160_51 : decode (xcode 160) 51 = .ok (.goto 23, 3) := by decide +kernel
theorem d160_54 : decode (xcode 160) 54 = .ok (.aload_n 0, 1) := by decide +kernel
theorem d160_55 : decode (xcode 160) 55 = .ok (.getfield 7, 3) := by decide +kernel
theorem d160_58 : decode (xcode 160) 58 = .ok (.aload_n 0, 1) := by decide +kernel
theorem d160_59 : decode (xcode 160) 59 = .ok (.getfield 96, 3) := by decide +kernel
theorem d160_62 : decode (xcode 160) 62 = .ok (.baload, 1) := by decide +kernel
theorem d160_63 : decode (xcode 160) 63 = .ok (.bipush 47, 2) := by decide +kernel
theorem d160_65 : decode (xcode 160) 65 = .ok (.if_icmp .ne 7, 3) := by decide +kernel
theorem d160_68 : decode (xcode 160) 68 = .ok (.iconst 5, 1) := by decide +kernel
theorem d160_69 : decode (xcode 160) 69 = .ok (.goto 5, 3) := by decide +kernel
theorem d160_72 : decode (xcode 160) 72 = .ok (.bipush 14, 2) := by decide +kernel
theorem d160_74 : decode (xcode 160) 74 = .ok (.istore_n 1, 1) := by decide +kernel
theorem d160_75 : decode (xcode 160) 75 = .ok (.aload_n 0, 1) := by decide +kernel
theorem d160_76 : decode (xcode 160) 76 = .ok (.dup, 1) := by decide +kernel
theorem d160_77 : decode (xcode 160) 77 = .ok (.getfield 96, 3) := by decide +kernel
theorem d160_80 : decode (xcode 160) 80 = .ok (.iconst 1, 1) := by decide +kernel
theorem d160_81 : decode (xcode 160) 81 = .ok (.iadd, 1) := by decide +kernel
theorem d160_82 : decode (xcode 160) 82 = .ok (.putfield 96, 3) := by decide +kernel
theorem d160_85 : decode (xcode 160) 85 = .ok (.aload_n 0, 1) := by decide +kernel
theorem d160_86 : decode (xcode 160) 86 = .ok (.invokevirtual 182, 3) := by decide +kernel
theorem d160_89 : decode (xcode 160) 89 = .ok (.ifCond .ne 5, 3) := by decide +kernel
theorem d160_92 : decode (xcode 160) 92 = .ok (.iconst 0, 1) := by decide +kernel
theorem d160_93 : decode (xcode 160) 93 = .ok (.ireturn, 1) := by decide +kernel
theorem d160_94 : decode (xcode 160) 94 = .ok (.aload_n 0, 1) := by decide +kernel
theorem d160_95 : decode (xcode 160) 95 = .ok (.iload_n 1, 1) := by decide +kernel
theorem d160_96 : decode (xcode 160) 96 = .ok (.iconst 0, 1) := by decide +kernel
theorem d160_97 : decode (xcode 160) 97 = .ok (.invokevirtual 168, 3) := by decide +kernel
theorem d160_100 : decode (xcode 160) 100 = .ok (.goto (-91), 3) := by decide +kernel
theorem d160_103 : decode (xcode 160) 103 = .ok (.iconst 1, 1) := by decide +kernel
theorem d160_104 : decode (xcode 160) 104 = .ok (.ireturn, 1) := by decide +kernel
noncomputable def f_M_term_b74 (t0 : Int32) (h : xH) : Option ((xH) ⊕ (Int32 × xH)) :=
  xlet (xsI h 12 8 0 ((h.1 12 8 0) + (1 : Int32))) fun h11 =>
  (f_M_value h11).bind fun q14 =>
  if q14.1 = (0 : Int32) then (
  some (Sum.inr (((0 : Int32), q14.2)))) else (
  (f_M_puts t0 (0 : Int32) q14.2).bind fun h18 =>
  some (Sum.inl h18))
set_option maxHeartbeats 4000000 in
set_option maxRecDepth 100000 in
theorem f_M_term_b74_ok {g : xG} {l : Launch} {d : Nat} {t0 : Int32} {h : xH} {o : ((xH) ⊕ (Int32 × xH))} {R : Option xV} {H' : xH} (hD : 4 ≤ d) (hf : f_M_term_b74 t0 h = some o) (K1 : ∀ (h1 : xH), o = Sum.inl h1 → xEv g l d 160 9 [(0, xr 12 (some 0))] [] h1 R H') (K0 : ∀ (a : Int32) (h1 : xH), o = Sum.inr ((a, h1)) → R = some (xi a) ∧ H' = h1) : xEv g l d 160 74 [(0, xr 12 (some 0))] [xi t0] h R H' := by
  unfold f_M_term_b74 at hf
  refine xe_istore_n (v := t0) (ls2 := [(0, xr 12 (some 0)), (1, xi t0)]) d160_74 mx160 (by decide) rfl rfl ?_
  refine xs_aload_n d160_75 rfl ?_
  refine xs_dup d160_76 rfl ?_
  refine xe_geti d160_77 ky160 fl169 fk12_8 ?_
  refine xs_iconst (v := 1) d160_80 (by decide) ?_
  refine xs_iadd d160_81 ?_
  obtain ⟨h11, eh11, hf⟩ := lk_let hf
  refine xe_puti d160_82 ky160 fl169 fk12_8 ft12_8 eh11 ?_
  refine xs_aload_n d160_85 rfl ?_
  obtain ⟨q14, hc13, hf⟩ := lk_b hf
  refine xe_callv1 (as := []) (st := []) (h2 := q14.2) (d2 := d - 1) d160_86 ky160 ml203 st159 (by decide) cn159 rfl na159 (Nat.le_of_ble_eq_true rfl) (by omega) (f_M_value_ok (by omega) hc13) ?_
  rcases lk_if hf with ⟨hc15, hf⟩ | ⟨hc15, hf⟩
  · refine xs_if_ne (tgt := 94) d160_89 (by decide) (fun _ => ?_) (fun hn => absurd hc15 hn)
    refine xs_iconst (v := 0) d160_92 (by decide) ?_
    obtain ⟨eR, eH⟩ := K0 _ _ (Option.some.inj hf).symm
    subst eR; subst eH
    exact xe_zret d160_93 (Or.inl rfl) rt160
  · refine xs_if_ne (tgt := 94) d160_89 (by decide) (fun hp => absurd hp hc15) (fun _ => ?_)
    refine xs_aload_n d160_94 rfl ?_
    refine xs_iload_n d160_95 rfl ?_
    refine xs_iconst (v := 0) d160_96 (by decide) ?_
    obtain ⟨h18, hc17, hf⟩ := lk_b hf
    refine xe_callv0 (as := [xi t0, xi (0 : Int32)]) (st := []) (h2 := h18) (d2 := d - 1) d160_97 ky160 ml205 st154 (by decide) cn154 rfl na154 (Nat.le_of_ble_eq_true rfl) (by omega) (f_M_puts_ok (by omega) hc17) ?_
    refine xs_goto (tgt := 9) d160_100 (by decide) ?_
    refine xs_pick [0] rfl ?_
    exact K1 _ (Option.some.inj hf).symm
noncomputable def f_M_term_b36 (h : xH) : Option ((xH) ⊕ (Int32 × xH)) :=
  if xib (h.1 12 8 0) 400 then (
  if (h.2.2.2.1 47 0 (h.1 12 8 0).toNatClampNeg) = (42 : Int32) then (
  f_M_term_b74 (4 : Int32) h) else (
  if xib (h.1 12 8 0) 400 then (
  if (h.2.2.2.1 47 0 (h.1 12 8 0).toNatClampNeg) = (47 : Int32) then (
  f_M_term_b74 (5 : Int32) h) else (
  f_M_term_b74 (14 : Int32) h)) else none)) else none
set_option maxHeartbeats 4000000 in
set_option maxRecDepth 100000 in
theorem f_M_term_b36_ok {g : xG} {l : Launch} {d : Nat} {h : xH} {o : ((xH) ⊕ (Int32 × xH))} {R : Option xV} {H' : xH} (hD : 4 ≤ d) (hf : f_M_term_b36 h = some o) (K1 : ∀ (h1 : xH), o = Sum.inl h1 → xEv g l d 160 9 [(0, xr 12 (some 0))] [] h1 R H') (K0 : ∀ (a : Int32) (h1 : xH), o = Sum.inr ((a, h1)) → R = some (xi a) ∧ H' = h1) : xEv g l d 160 36 [(0, xr 12 (some 0))] [] h R H' := by
  unfold f_M_term_b36 at hf
  refine xs_aload_n d160_36 rfl ?_
  refine xe_getc (j := 0) d160_37 ky160 fl161 fk12_0 rfl ?_
  refine xs_aload_n d160_40 rfl ?_
  refine xe_geti d160_41 ky160 fl169 fk12_8 ?_
  obtain ⟨hin9, hf⟩ := lk_g hf
  refine xe_bald d160_44 (by decide) ak47 hin9 ?_
  refine xs_bipush (v := 42) d160_45 (by decide) ?_
  rcases lk_if hf with ⟨hc10, hf⟩ | ⟨hc10, hf⟩
  · refine xs_icmp_ne (tgt := 54) d160_47 (by decide) (fun _ => ?_) (fun hn => absurd hc10 hn)
    refine xs_iconst (v := 4) d160_50 (by decide) ?_
    refine xs_goto (tgt := 74) d160_51 (by decide) ?_
    exact f_M_term_b74_ok hD hf K1 K0
  · refine xs_icmp_ne (tgt := 54) d160_47 (by decide) (fun hp => absurd hp hc10) (fun _ => ?_)
    refine xs_aload_n d160_54 rfl ?_
    refine xe_getc (j := 0) d160_55 ky160 fl161 fk12_0 rfl ?_
    refine xs_aload_n d160_58 rfl ?_
    refine xe_geti d160_59 ky160 fl169 fk12_8 ?_
    obtain ⟨hin19, hf⟩ := lk_g hf
    refine xe_bald d160_62 (by decide) ak47 hin19 ?_
    refine xs_bipush (v := 47) d160_63 (by decide) ?_
    rcases lk_if hf with ⟨hc20, hf⟩ | ⟨hc20, hf⟩
    · refine xs_icmp_ne (tgt := 72) d160_65 (by decide) (fun _ => ?_) (fun hn => absurd hc20 hn)
      refine xs_iconst (v := 5) d160_68 (by decide) ?_
      refine xs_goto (tgt := 74) d160_69 (by decide) ?_
      exact f_M_term_b74_ok hD hf K1 K0
    · refine xs_icmp_ne (tgt := 72) d160_65 (by decide) (fun hp => absurd hp hc20) (fun _ => ?_)
      refine xs_bipush (v := 14) d160_72 (by decide) ?_
      exact f_M_term_b74_ok hD hf K1 K0
noncomputable def f_M_term_s9 (h : xH) : Option ((xH) ⊕ (Int32 × xH)) :=
  (f_M_see h).bind fun q7 =>
  if q7.1 = (42 : Int32) then (
  f_M_term_b36 q7.2) else (
  (f_M_see q7.2).bind fun q23 =>
  if q23.1 = (47 : Int32) then (
  f_M_term_b36 q23.2) else (
  (f_M_see q23.2).bind fun q27 =>
  if q27.1 = (37 : Int32) then (
  f_M_term_b36 q27.2) else (
  some (Sum.inr (((1 : Int32), q27.2))))))
set_option maxHeartbeats 4000000 in
set_option maxRecDepth 100000 in
theorem f_M_term_s9_ok {g : xG} {l : Launch} {d : Nat} {h : xH} {o : ((xH) ⊕ (Int32 × xH))} {R : Option xV} {H' : xH} (hD : 4 ≤ d) (hf : f_M_term_s9 h = some o) (K1 : ∀ (h1 : xH), o = Sum.inl h1 → xEv g l d 160 9 [(0, xr 12 (some 0))] [] h1 R H') (K0 : ∀ (a : Int32) (h1 : xH), o = Sum.inr ((a, h1)) → R = some (xi a) ∧ H' = h1) : xEv g l d 160 9 [(0, xr 12 (some 0))] [] h R H' := by
  unfold f_M_term_s9 at hf
  refine xs_aload_n d160_9 rfl ?_
  obtain ⟨q7, hc6, hf⟩ := lk_b hf
  refine xe_callv1 (as := []) (st := []) (h2 := q7.2) (d2 := d - 1) d160_10 ky160 ml185 st146 (by decide) cn146 rfl na146 (Nat.le_of_ble_eq_true rfl) (by omega) (f_M_see_ok (by omega) hc6) ?_
  refine xs_bipush (v := 42) d160_13 (by decide) ?_
  rcases lk_if hf with ⟨hc8, hf⟩ | ⟨hc8, hf⟩
  · refine xs_icmp_eq (tgt := 36) d160_15 (by decide) (fun _ => ?_) (fun hn => absurd hc8 hn)
    exact f_M_term_b36_ok hD hf K1 K0
  · refine xs_icmp_eq (tgt := 36) d160_15 (by decide) (fun hp => absurd hp hc8) (fun _ => ?_)
    refine xs_aload_n d160_18 rfl ?_
    obtain ⟨q23, hc22, hf⟩ := lk_b hf
    refine xe_callv1 (as := []) (st := []) (h2 := q23.2) (d2 := d - 1) d160_19 ky160 ml185 st146 (by decide) cn146 rfl na146 (Nat.le_of_ble_eq_true rfl) (by omega) (f_M_see_ok (by omega) hc22) ?_
    refine xs_bipush (v := 47) d160_22 (by decide) ?_
    rcases lk_if hf with ⟨hc24, hf⟩ | ⟨hc24, hf⟩
    · refine xs_icmp_eq (tgt := 36) d160_24 (by decide) (fun _ => ?_) (fun hn => absurd hc24 hn)
      exact f_M_term_b36_ok hD hf K1 K0
    · refine xs_icmp_eq (tgt := 36) d160_24 (by decide) (fun hp => absurd hp hc24) (fun _ => ?_)
      refine xs_aload_n d160_27 rfl ?_
      obtain ⟨q27, hc26, hf⟩ := lk_b hf
      refine xe_callv1 (as := []) (st := []) (h2 := q27.2) (d2 := d - 1) d160_28 ky160 ml185 st146 (by decide) cn146 rfl na146 (Nat.le_of_ble_eq_true rfl) (by omega) (f_M_see_ok (by omega) hc26) ?_
      refine xs_bipush (v := 37) d160_31 (by decide) ?_
      rcases lk_if hf with ⟨hc28, hf⟩ | ⟨hc28, hf⟩
      · refine xs_icmp_ne (tgt := 103) d160_33 (by decide) (fun _ => ?_) (fun hn => absurd hc28 hn)
        exact f_M_term_b36_ok hD hf K1 K0
      · refine xs_icmp_ne (tgt := 103) d160_33 (by decide) (fun hp => absurd hp hc28) (fun _ => ?_)
        refine xs_iconst (v := 1) d160_103 (by decide) ?_
        obtain ⟨eR, eH⟩ := K0 _ _ (Option.some.inj hf).symm
        subst eR; subst eH
        exact xe_zret d160_104 (Or.inr rfl) rt160
noncomputable def f_M_term_l9 (h : xH) : Option (Int32 × xH) :=
  whl (fun s => f_M_term_s9 s) h
theorem f_M_term_l9_ok {g : xG} {l : Launch} {d : Nat} {h : xH} {o : (Int32 × xH)} {R : Option xV} {H' : xH} (hD : 4 ≤ d) (hf : f_M_term_l9 h = some o) (K0 : ∀ (a : Int32) (h1 : xH), o = (a, h1) → R = some (xi a) ∧ H' = h1) : xEv g l d 160 9 [(0, xr 12 (some 0))] [] h R H' := by
  obtain ⟨n, hn⟩ := whl_iff.mp hf
  clear hf
  induction n generalizing h with
  | zero => cases hn
  | succ n ih =>
    obtain ⟨o2, hs, hn⟩ := lk_b (show (f_M_term_s9 h).bind (fun o => Sum.elim (itn _ n) some o) = some o from hn)
    exact f_M_term_s9_ok hD hs (fun u0 e => ih (by rw [e] at hn; exact hn)) (fun u0 u1 e => K0 u0 u1 (by rw [e] at hn; exact (Option.some.inj hn).symm))
noncomputable def f_M_term_e (h : xH) : Option (Int32 × xH) :=
  (f_M_value h).bind fun q3 =>
  if q3.1 = (0 : Int32) then (
  some (((0 : Int32), q3.2))) else (
  f_M_term_l9 q3.2)
set_option maxHeartbeats 4000000 in
set_option maxRecDepth 100000 in
theorem f_M_term_e_ok {g : xG} {l : Launch} {d : Nat} {h : xH} {o : (Int32 × xH)} {R : Option xV} {H' : xH} (hD : 4 ≤ d) (hf : f_M_term_e h = some o) (K0 : ∀ (a : Int32) (h1 : xH), o = (a, h1) → R = some (xi a) ∧ H' = h1) : xEv g l d 160 0 [(0, xr 12 (some 0))] [] h R H' := by
  unfold f_M_term_e at hf
  refine xs_aload_n d160_0 rfl ?_
  obtain ⟨q3, hc2, hf⟩ := lk_b hf
  refine xe_callv1 (as := []) (st := []) (h2 := q3.2) (d2 := d - 1) d160_1 ky160 ml203 st159 (by decide) cn159 rfl na159 (Nat.le_of_ble_eq_true rfl) (by omega) (f_M_value_ok (by omega) hc2) ?_
  rcases lk_if hf with ⟨hc4, hf⟩ | ⟨hc4, hf⟩
  · refine xs_if_ne (tgt := 9) d160_4 (by decide) (fun _ => ?_) (fun hn => absurd hc4 hn)
    refine xs_iconst (v := 0) d160_7 (by decide) ?_
    obtain ⟨eR, eH⟩ := K0 _ _ (Option.some.inj hf).symm
    subst eR; subst eH
    exact xe_zret d160_8 (Or.inl rfl) rt160
  · refine xs_if_ne (tgt := 9) d160_4 (by decide) (fun hp => absurd hp hc4) (fun _ => ?_)
    exact f_M_term_l9_ok hD hf K0
noncomputable def f_M_term (h : xH) : Option (Int32 × xH) := f_M_term_e h
theorem f_M_term_ok {g : xG} {l : Launch} {d : Nat} {h : xH} {r : Int32} {h1 : xH} (hD : 4 ≤ d) (hf : f_M_term h = some (r, h1)) : xC g l d 160 [xr 12 (some 0)] h (some (xi r)) h1 :=
  xC_of2 (by decide) mx160 (Nat.le_of_ble_eq_true rfl) (f_M_term_e_ok hD hf (fun _ _ e => by cases e; exact ⟨rfl, rfl⟩))
theorem d161_0 : decode (xcode 161) 0 = .ok (.aload_n 0, 1) := by decide +kernel
theorem d161_1 : decode (xcode 161) 1 = .ok (.invokevirtual 186, 3) := by decide +kernel
theorem d161_4 : decode (xcode 161) 4 = .ok (.ifCond .ne 5, 3) := by decide +kernel
theorem d161_7 : decode (xcode 161) 7 = .ok (.iconst 0, 1) := by decide +kernel
theorem d161_8 : decode (xcode 161) 8 = .ok (.ireturn, 1) := by decide +kernel
theorem d161_9 : decode (xcode 161) 9 = .ok (.aload_n 0, 1) := by decide +kernel
theorem d161_10 : decode (xcode 161) 10 = .ok (.invokevirtual 99, 3) := by decide +kernel
theorem d161_13 : decode (xcode 161) 13 = .ok (.bipush 43, 2) := by decide +kernel
theorem d161_15 : decode (xcode 161) 15 = .ok (.if_icmp .eq 12, 3) := by decide +kernel
theorem d161_18 : decode (xcode 161) 18 = .ok (.aload_n 0, 1) := by decide +kernel
theorem d161_19 : decode (xcode 161) 19 = .ok (.invokevirtual 99, 3) := by decide +kernel
theorem d161_22 : decode (xcode 161) 22 = .ok (.bipush 45, 2) := by decide +kernel
theorem d161_24 : decode (xcode 161) 24 = .ok (.if_icmp .ne 51, 3) := by decide +kernel
theorem d161_27 : decode (xcode 161) 27 = .ok (.aload_n 0, 1) := by decide +kernel
theorem d161_28 : decode (xcode 161) 28 = .ok (.getfield 7, 3) := by decide +kernel
theorem d161_31 : decode (xcode 161) 31 = .ok (.aload_n 0, 1) := by decide +kernel
theorem d161_32 : decode (xcode 161) 32 = .ok (.getfield 96, 3) := by decide +kernel
theorem d161_35 : decode (xcode 161) 35 = .ok (.baload, 1) := by decide +kernel
theorem d161_36 : decode (xcode 161) 36 = .ok (.bipush 43, 2) := by decide +kernel
theorem d161_38 : decode (xcode 161) 38 = .ok (.if_icmp .ne 7, 3) := by decide +kernel
theorem d161_41 : decode (xcode 161) 41 = .ok (.iconst 2, 1) := by decide +kernel
theorem d161_42 : decode (xcode 161) 42 = .ok (.goto 4, 3) := by decide +kernel
theorem d161_45 : decode (xcode 161) 45 = .ok (.iconst 3, 1) := by decide +kernel
theorem d161_46 : decode (xcode 161) 46 = .ok (.istore_n 1, 1) := by decide +kernel
theorem d161_47 : decode (xcode 161) 47 = .ok (.aload_n 0, 1) := by decide +kernel
theorem d161_48 : decode (xcode 161) 48 = .ok (.dup, 1) := by decide +kernel
theorem d161_49 : decode (xcode 161) 49 = .ok (.getfield 96, 3) := by decide +kernel
theorem d161_52 : decode (xcode 161) 52 = .ok (.iconst 1, 1) := by decide +kernel
theorem d161_53 : decode (xcode 161) 53 = .ok (.iadd, 1) := by decide +kernel
theorem d161_54 : decode (xcode 161) 54 = .ok (.putfield 96, 3) := by decide +kernel
theorem d161_57 : decode (xcode 161) 57 = .ok (.aload_n 0, 1) := by decide +kernel
theorem d161_58 : decode (xcode 161) 58 = .ok (.invokevirtual 186, 3) := by decide +kernel
theorem d161_61 : decode (xcode 161) 61 = .ok (.ifCond .ne 5, 3) := by decide +kernel
theorem d161_64 : decode (xcode 161) 64 = .ok (.iconst 0, 1) := by decide +kernel
theorem d161_65 : decode (xcode 161) 65 = .ok (.ireturn, 1) := by decide +kernel
theorem d161_66 : decode (xcode 161) 66 = .ok (.aload_n 0, 1) := by decide +kernel
theorem d161_67 : decode (xcode 161) 67 = .ok (.iload_n 1, 1) := by decide +kernel
theorem d161_68 : decode (xcode 161) 68 = .ok (.iconst 0, 1) := by decide +kernel
theorem d161_69 : decode (xcode 161) 69 = .ok (.invokevirtual 168, 3) := by decide +kernel
theorem d161_72 : decode (xcode 161) 72 = .ok (.goto (-63), 3) := by decide +kernel
theorem d161_75 : decode (xcode 161) 75 = .ok (.iconst 1, 1) := by decide +kernel
theorem d161_76 : decode (xcode 161) 76 = .ok (.ireturn, 1) := by decide +kernel
noncomputable def f_M_sum_b46 (t0 : Int32) (h : xH) : Option ((xH) ⊕ (Int32 × xH)) :=
  xlet (xsI h 12 8 0 ((h.1 12 8 0) + (1 : Int32))) fun h11 =>
  (f_M_term h11).bind fun q14 =>
  if q14.1 = (0 : Int32) then (
  some (Sum.inr (((0 : Int32), q14.2)))) else (
  (f_M_puts t0 (0 : Int32) q14.2).bind fun h18 =>
  some (Sum.inl h18))
set_option maxHeartbeats 4000000 in
set_option maxRecDepth 100000 in
theorem f_M_sum_b46_ok {g : xG} {l : Launch} {d : Nat} {t0 : Int32} {h : xH} {o : ((xH) ⊕ (Int32 × xH))} {R : Option xV} {H' : xH} (hD : 5 ≤ d) (hf : f_M_sum_b46 t0 h = some o) (K1 : ∀ (h1 : xH), o = Sum.inl h1 → xEv g l d 161 9 [(0, xr 12 (some 0))] [] h1 R H') (K0 : ∀ (a : Int32) (h1 : xH), o = Sum.inr ((a, h1)) → R = some (xi a) ∧ H' = h1) : xEv g l d 161 46 [(0, xr 12 (some 0))] [xi t0] h R H' := by
  unfold f_M_sum_b46 at hf
  refine xe_istore_n (v := t0) (ls2 := [(0, xr 12 (some 0)), (1, xi t0)]) d161_46 mx161 (by decide) rfl rfl ?_
  refine xs_aload_n d161_47 rfl ?_
  refine xs_dup d161_48 rfl ?_
  refine xe_geti d161_49 ky161 fl169 fk12_8 ?_
  refine xs_iconst (v := 1) d161_52 (by decide) ?_
  refine xs_iadd d161_53 ?_
  obtain ⟨h11, eh11, hf⟩ := lk_let hf
  refine xe_puti d161_54 ky161 fl169 fk12_8 ft12_8 eh11 ?_
  refine xs_aload_n d161_57 rfl ?_
  obtain ⟨q14, hc13, hf⟩ := lk_b hf
  refine xe_callv1 (as := []) (st := []) (h2 := q14.2) (d2 := d - 1) d161_58 ky161 ml202 st160 (by decide) cn160 rfl na160 (Nat.le_of_ble_eq_true rfl) (by omega) (f_M_term_ok (by omega) hc13) ?_
  rcases lk_if hf with ⟨hc15, hf⟩ | ⟨hc15, hf⟩
  · refine xs_if_ne (tgt := 66) d161_61 (by decide) (fun _ => ?_) (fun hn => absurd hc15 hn)
    refine xs_iconst (v := 0) d161_64 (by decide) ?_
    obtain ⟨eR, eH⟩ := K0 _ _ (Option.some.inj hf).symm
    subst eR; subst eH
    exact xe_zret d161_65 (Or.inl rfl) rt161
  · refine xs_if_ne (tgt := 66) d161_61 (by decide) (fun hp => absurd hp hc15) (fun _ => ?_)
    refine xs_aload_n d161_66 rfl ?_
    refine xs_iload_n d161_67 rfl ?_
    refine xs_iconst (v := 0) d161_68 (by decide) ?_
    obtain ⟨h18, hc17, hf⟩ := lk_b hf
    refine xe_callv0 (as := [xi t0, xi (0 : Int32)]) (st := []) (h2 := h18) (d2 := d - 1) d161_69 ky161 ml205 st154 (by decide) cn154 rfl na154 (Nat.le_of_ble_eq_true rfl) (by omega) (f_M_puts_ok (by omega) hc17) ?_
    refine xs_goto (tgt := 9) d161_72 (by decide) ?_
    refine xs_pick [0] rfl ?_
    exact K1 _ (Option.some.inj hf).symm
noncomputable def f_M_sum_b27 (h : xH) : Option ((xH) ⊕ (Int32 × xH)) :=
  if xib (h.1 12 8 0) 400 then (
  if (h.2.2.2.1 47 0 (h.1 12 8 0).toNatClampNeg) = (43 : Int32) then (
  f_M_sum_b46 (2 : Int32) h) else (
  f_M_sum_b46 (3 : Int32) h)) else none
set_option maxHeartbeats 4000000 in
set_option maxRecDepth 100000 in
theorem f_M_sum_b27_ok {g : xG} {l : Launch} {d : Nat} {h : xH} {o : ((xH) ⊕ (Int32 × xH))} {R : Option xV} {H' : xH} (hD : 5 ≤ d) (hf : f_M_sum_b27 h = some o) (K1 : ∀ (h1 : xH), o = Sum.inl h1 → xEv g l d 161 9 [(0, xr 12 (some 0))] [] h1 R H') (K0 : ∀ (a : Int32) (h1 : xH), o = Sum.inr ((a, h1)) → R = some (xi a) ∧ H' = h1) : xEv g l d 161 27 [(0, xr 12 (some 0))] [] h R H' := by
  unfold f_M_sum_b27 at hf
  refine xs_aload_n d161_27 rfl ?_
  refine xe_getc (j := 0) d161_28 ky161 fl161 fk12_0 rfl ?_
  refine xs_aload_n d161_31 rfl ?_
  refine xe_geti d161_32 ky161 fl169 fk12_8 ?_
  obtain ⟨hin9, hf⟩ := lk_g hf
  refine xe_bald d161_35 (by decide) ak47 hin9 ?_
  refine xs_bipush (v := 43) d161_36 (by decide) ?_
  rcases lk_if hf with ⟨hc10, hf⟩ | ⟨hc10, hf⟩
  · refine xs_icmp_ne (tgt := 45) d161_38 (by decide) (fun _ => ?_) (fun hn => absurd hc10 hn)
    refine xs_iconst (v := 2) d161_41 (by decide) ?_
    refine xs_goto (tgt := 46) d161_42 (by decide) ?_
    exact f_M_sum_b46_ok hD hf K1 K0
  · refine xs_icmp_ne (tgt := 45) d161_38 (by decide) (fun hp => absurd hp hc10) (fun _ => ?_)
    refine xs_iconst (v := 3) d161_45 (by decide) ?_
    exact f_M_sum_b46_ok hD hf K1 K0
noncomputable def f_M_sum_s9 (h : xH) : Option ((xH) ⊕ (Int32 × xH)) :=
  (f_M_see h).bind fun q7 =>
  if q7.1 = (43 : Int32) then (
  f_M_sum_b27 q7.2) else (
  (f_M_see q7.2).bind fun q21 =>
  if q21.1 = (45 : Int32) then (
  f_M_sum_b27 q21.2) else (
  some (Sum.inr (((1 : Int32), q21.2)))))
set_option maxHeartbeats 4000000 in
set_option maxRecDepth 100000 in
theorem f_M_sum_s9_ok {g : xG} {l : Launch} {d : Nat} {h : xH} {o : ((xH) ⊕ (Int32 × xH))} {R : Option xV} {H' : xH} (hD : 5 ≤ d) (hf : f_M_sum_s9 h = some o) (K1 : ∀ (h1 : xH), o = Sum.inl h1 → xEv g l d 161 9 [(0, xr 12 (some 0))] [] h1 R H') (K0 : ∀ (a : Int32) (h1 : xH), o = Sum.inr ((a, h1)) → R = some (xi a) ∧ H' = h1) : xEv g l d 161 9 [(0, xr 12 (some 0))] [] h R H' := by
  unfold f_M_sum_s9 at hf
  refine xs_aload_n d161_9 rfl ?_
  obtain ⟨q7, hc6, hf⟩ := lk_b hf
  refine xe_callv1 (as := []) (st := []) (h2 := q7.2) (d2 := d - 1) d161_10 ky161 ml185 st146 (by decide) cn146 rfl na146 (Nat.le_of_ble_eq_true rfl) (by omega) (f_M_see_ok (by omega) hc6) ?_
  refine xs_bipush (v := 43) d161_13 (by decide) ?_
  rcases lk_if hf with ⟨hc8, hf⟩ | ⟨hc8, hf⟩
  · refine xs_icmp_eq (tgt := 27) d161_15 (by decide) (fun _ => ?_) (fun hn => absurd hc8 hn)
    exact f_M_sum_b27_ok hD hf K1 K0
  · refine xs_icmp_eq (tgt := 27) d161_15 (by decide) (fun hp => absurd hp hc8) (fun _ => ?_)
    refine xs_aload_n d161_18 rfl ?_
    obtain ⟨q21, hc20, hf⟩ := lk_b hf
    refine xe_callv1 (as := []) (st := []) (h2 := q21.2) (d2 := d - 1) d161_19 ky161 ml185 st146 (by decide) cn146 rfl na146 (Nat.le_of_ble_eq_true rfl) (by omega) (f_M_see_ok (by omega) hc20) ?_
    refine xs_bipush (v := 45) d161_22 (by decide) ?_
    rcases lk_if hf with ⟨hc22, hf⟩ | ⟨hc22, hf⟩
    · refine xs_icmp_ne (tgt := 75) d161_24 (by decide) (fun _ => ?_) (fun hn => absurd hc22 hn)
      exact f_M_sum_b27_ok hD hf K1 K0
    · refine xs_icmp_ne (tgt := 75) d161_24 (by decide) (fun hp => absurd hp hc22) (fun _ => ?_)
      refine xs_iconst (v := 1) d161_75 (by decide) ?_
      obtain ⟨eR, eH⟩ := K0 _ _ (Option.some.inj hf).symm
      subst eR; subst eH
      exact xe_zret d161_76 (Or.inr rfl) rt161
noncomputable def f_M_sum_l9 (h : xH) : Option (Int32 × xH) :=
  whl (fun s => f_M_sum_s9 s) h
theorem f_M_sum_l9_ok {g : xG} {l : Launch} {d : Nat} {h : xH} {o : (Int32 × xH)} {R : Option xV} {H' : xH} (hD : 5 ≤ d) (hf : f_M_sum_l9 h = some o) (K0 : ∀ (a : Int32) (h1 : xH), o = (a, h1) → R = some (xi a) ∧ H' = h1) : xEv g l d 161 9 [(0, xr 12 (some 0))] [] h R H' := by
  obtain ⟨n, hn⟩ := whl_iff.mp hf
  clear hf
  induction n generalizing h with
  | zero => cases hn
  | succ n ih =>
    obtain ⟨o2, hs, hn⟩ := lk_b (show (f_M_sum_s9 h).bind (fun o => Sum.elim (itn _ n) some o) = some o from hn)
    exact f_M_sum_s9_ok hD hs (fun u0 e => ih (by rw [e] at hn; exact hn)) (fun u0 u1 e => K0 u0 u1 (by rw [e] at hn; exact (Option.some.inj hn).symm))
noncomputable def f_M_sum_e (h : xH) : Option (Int32 × xH) :=
  (f_M_term h).bind fun q3 =>
  if q3.1 = (0 : Int32) then (
  some (((0 : Int32), q3.2))) else (
  f_M_sum_l9 q3.2)
set_option maxHeartbeats 4000000 in
set_option maxRecDepth 100000 in
theorem f_M_sum_e_ok {g : xG} {l : Launch} {d : Nat} {h : xH} {o : (Int32 × xH)} {R : Option xV} {H' : xH} (hD : 5 ≤ d) (hf : f_M_sum_e h = some o) (K0 : ∀ (a : Int32) (h1 : xH), o = (a, h1) → R = some (xi a) ∧ H' = h1) : xEv g l d 161 0 [(0, xr 12 (some 0))] [] h R H' := by
  unfold f_M_sum_e at hf
  refine xs_aload_n d161_0 rfl ?_
  obtain ⟨q3, hc2, hf⟩ := lk_b hf
  refine xe_callv1 (as := []) (st := []) (h2 := q3.2) (d2 := d - 1) d161_1 ky161 ml202 st160 (by decide) cn160 rfl na160 (Nat.le_of_ble_eq_true rfl) (by omega) (f_M_term_ok (by omega) hc2) ?_
  rcases lk_if hf with ⟨hc4, hf⟩ | ⟨hc4, hf⟩
  · refine xs_if_ne (tgt := 9) d161_4 (by decide) (fun _ => ?_) (fun hn => absurd hc4 hn)
    refine xs_iconst (v := 0) d161_7 (by decide) ?_
    obtain ⟨eR, eH⟩ := K0 _ _ (Option.some.inj hf).symm
    subst eR; subst eH
    exact xe_zret d161_8 (Or.inl rfl) rt161
  · refine xs_if_ne (tgt := 9) d161_4 (by decide) (fun hp => absurd hp hc4) (fun _ => ?_)
    exact f_M_sum_l9_ok hD hf K0
noncomputable def f_M_sum (h : xH) : Option (Int32 × xH) := f_M_sum_e h
theorem f_M_sum_ok {g : xG} {l : Launch} {d : Nat} {h : xH} {r : Int32} {h1 : xH} (hD : 5 ≤ d) (hf : f_M_sum h = some (r, h1)) : xC g l d 161 [xr 12 (some 0)] h (some (xi r)) h1 :=
  xC_of2 (by decide) mx161 (Nat.le_of_ble_eq_true rfl) (f_M_sum_e_ok hD hf (fun _ _ e => by cases e; exact ⟨rfl, rfl⟩))
theorem d162_0 : decode (xcode 162) 0 = .ok (.aload_n 0, 1) := by decide +kernel
theorem d162_1 : decode (xcode 162) 1 = .ok (.invokevirtual 189, 3) := by decide +kernel
theorem d162_4 : decode (xcode 162) 4 = .ok (.ifCond .ne 5, 3) := by decide +kernel
theorem d162_7 : decode (xcode 162) 7 = .ok (.iconst 0, 1) := by decide +kernel
theorem d162_8 : decode (xcode 162) 8 = .ok (.ireturn, 1) := by decide +kernel
theorem d162_9 : decode (xcode 162) 9 = .ok (.aload_n 0, 1) := by decide +kernel
theorem d162_10 : decode (xcode 162) 10 = .ok (.invokevirtual 99, 3) := by decide +kernel
theorem d162_13 : decode (xcode 162) 13 = .ok (.istore_n 1, 1) := by decide +kernel
theorem d162_14 : decode (xcode 162) 14 = .ok (.aload_n 0, 1) := by decide +kernel
theorem d162_15 : decode (xcode 162) 15 = .ok (.getfield 96, 3) := by decide +kernel
theorem d162_18 : decode (xcode 162) 18 = .ok (.istore_n 2, 1) := by decide +kernel
theorem d162_19 : decode (xcode 162) 19 = .ok (.iload_n 1, 1) := by decide +kernel
theorem d162_20 : decode (xcode 162) 20 = .ok (.bipush 60, 2) := by decide +kernel
theorem d162_22 : decode (xcode 162) 22 = .ok (.if_icmp .eq 22, 3) := by decide +kernel
theorem d162_25 : decode (xcode 162) 25 = .ok (.iload_n 1, 1) := by decide +kernel
theorem d162_26 : decode (xcode 162) 26 = .ok (.bipush 61, 2) := by decide +kernel
theorem d162_28 : decode (xcode 162) 28 = .ok (.if_icmp .eq 16, 3) := by decide +kernel
theorem d162_31 : decode (xcode 162) 31 = .ok (.iload_n 1, 1) := by decide +kernel
theorem d162_32 : decode (xcode 162) 32 = .ok (.bipush 62, 2) := by decide +kernel
theorem d162_34 : decode (xcode 162) 34 = .ok (.if_icmp .eq 10, 3) := by decide +kernel
theorem d162_37 : decode (xcode 162) 37 = .ok (.aload_n 0, 1) := by decide +kernel
theorem d162_38 : decode (xcode 162) 38 = .ok (.iconst 0, 1) := by decide +kernel
theorem d162_39 : decode (xcode 162) 39 = .ok (.iload_n 2, 1) := by decide +kernel
theorem d162_40 : decode (xcode 162) 40 = .ok (.invokevirtual 117, 3) := by decide +kernel
theorem d162_43 : decode (xcode 162) 43 = .ok (.ireturn, 1) := by decide +kernel
theorem d162_44 : decode (xcode 162) 44 = .ok (.aload_n 0, 1) := by decide +kernel
theorem d162_45 : decode (xcode 162) 45 = .ok (.dup, 1) := by decide +kernel
theorem d162_46 : decode (xcode 162) 46 = .ok (.getfield 96, 3) := by decide +kernel
theorem d162_49 : decode (xcode 162) 49 = .ok (.iconst 1, 1) := by decide +kernel
theorem d162_50 : decode (xcode 162) 50 = .ok (.iadd, 1) := by decide +kernel
theorem d162_51 : decode (xcode 162) 51 = .ok (.putfield 96, 3) := by decide +kernel
theorem d162_54 : decode (xcode 162) 54 = .ok (.iload_n 1, 1) := by decide +kernel
theorem d162_55 : decode (xcode 162) 55 = .ok (.bipush 61, 2) := by decide +kernel
theorem d162_57 : decode (xcode 162) 57 = .ok (.if_icmp .eq 32, 3) := by decide +kernel
theorem d162_60 : decode (xcode 162) 60 = .ok (.aload_n 0, 1) := by decide +kernel
theorem d162_61 : decode (xcode 162) 61 = .ok (.getfield 96, 3) := by decide +kernel
theorem d162_64 : decode (xcode 162) 64 = .ok (.aload_n 0, 1) := by decide +kernel
theorem d162_65 : decode (xcode 162) 65 = .ok (.getfield 86, 3) := by decide +kernel
theorem d162_68 : decode (xcode 162) 68 = .ok (.if_icmp .ge 21, 3) := by decide +kernel
theorem d162_71 : decode (xcode 162) 71 = .ok (.aload_n 0, 1) := by decide +kernel
theorem d162_72 : decode (xcode 162) 72 = .ok (.getfield 7, 3) := by decide +kernel
theorem d162_75 : decode (xcode 162) 75 = .ok (.aload_n 0, 1) := by decide +kernel
theorem d162_76 : decode (xcode 162) 76 = .ok (.getfield 96, 3) := by decide +kernel
theorem d162_79 : decode (xcode 162) 79 = .ok (.baload, 1) := by decide +kernel
theorem d162_80 : decode (xcode 162) 80 = .ok (.bipush 61, 2) := by decide +kernel
theorem d162_82 : decode (xcode 162) 82 = .ok (.if_icmp .ne 7, 3) := by decide +kernel
theorem d162_85 : decode (xcode 162) 85 = .ok (.iconst 1, 1) := by decide +kernel
theorem d162_86 : decode (xcode 162) 86 = .ok (.goto 4, 3) := by decide +kernel
theorem d162_89 : decode (xcode 162) 89 = .ok (.iconst 0, 1) := by decide +kernel
theorem d162_90 : decode (xcode 162) 90 = .ok (.istore_n 3, 1) := by decide +kernel
theorem d162_91 : decode (xcode 162) 91 = .ok (.iload_n 3, 1) := by decide +kernel
theorem d162_92 : decode (xcode 162) 92 = .ok (.ifCond .eq 13, 3) := by decide +kernel
theorem d162_95 : decode (xcode 162) 95 = .ok (.aload_n 0, 1) := by decide +kernel
theorem d162_96 : decode (xcode 162) 96 = .ok (.dup, 1) := by decide +kernel
theorem d162_97 : decode (xcode 162) 97 = .ok (.getfield 96, 3) := by decide +kernel
theorem d162_100 : decode (xcode 162) 100 = .ok (.iconst 1, 1) := by decide +kernel
theorem d162_101 : decode (xcode 162) 101 = .ok (.iadd, 1) := by decide +kernel
theorem d162_102 : decode (xcode 162) 102 = .ok (.putfield 96, 3) := by decide +kernel
theorem d162_105 : decode (xcode 162) 105 = .ok (.aload_n 0, 1) := by decide +kernel
theorem d162_106 : decode (xcode 162) 106 = .ok (.iload_n 2, 1) := by decide +kernel
theorem d162_107 : decode (xcode 162) 107 = .ok (.invokevirtual 176, 3) := by decide +kernel
theorem d162_110 : decode (xcode 162) 110 = .ok (.ifCond .ne 5, 3) := by decide +kernel
theorem d162_113 : decode (xcode 162) 113 = .ok (.iconst 0, 1) := by decide +kernel
theorem d162_114 : decode (xcode 162) 114 = .ok (.ireturn, 1) := by decide +kernel
theorem d162_115 : decode (xcode 162) 115 = .ok (.iload_n 1, 1) := by decide +kernel
theorem d162_116 : decode (xcode 162) 116 = .ok (.bipush 60, 2) := by decide +kernel
theorem d162_118 : decode (xcode 162) 118 = .ok (.if_icmp .ne 15, 3) := by decide +kernel
theorem d162_121 : decode (xcode 162) 121 = .ok (.iload_n 3, 1) := by decide +kernel
theorem d162_122 : decode (xcode 162) 122 = .ok (.ifCond .eq 7, 3) := by decide +kernel
theorem d162_125 : decode (xcode 162) 125 = .ok (.iconst 1, 1) := by decide +kernel
theorem d162_126 : decode (xcode 162) 126 = .ok (.goto 26, 3) := by decide +kernel
theorem d162_129 : decode (xcode 162) 129 = .ok (.iconst 0, 1) := by decide +kernel
theorem d162_130 : decode (xcode 162) 130 = .ok (.goto 22, 3) := by decide +kernel
theorem d162_133 : decode (xcode 162) 133 = .ok (.iload_n 1, 1) := by decide +kernel
theorem d162_134 : decode (xcode 162) 134 = .ok (.bipush 61, 2) := by decide +kernel
theorem d162_136 : decode (xcode 162) 136 = .ok (.if_icmp .ne 7, 3) := by decide +kernel
theorem d162_139 : decode (xcode 162) 139 = .ok (.iconst 2, 1) := by decide +kernel
theorem d162_140 : decode (xcode 162) 140 = .ok (.goto 12, 3) := by decide +kernel
theorem d162_143 : decode (xcode 162) 143 = .ok (.iload_n 3, 1) := by decide +kernel
theorem d162_144 : decode (xcode 162) 144 = .ok (.ifCond .eq 7, 3) := by decide +kernel
theorem d162_147 : decode (xcode 162) 147 = .ok (.iconst 3, 1) := by decide +kernel
theorem d162_148 : decode (xcode 162) 148 = .ok (.goto 4, 3) := by decide +kernel
theorem d162_151 : decode (xcode 162) 151 = .ok (.iconst 4, 1) := by decide +kernel
theorem d162_152 : decode (xcode 162) 152 = .ok (.istore 4, 2) := by decide +kernel
theorem d162_154 : decode (xcode 162) 154 = .ok (.aload_n 0, 1) := by decide +kernel
theorem d162_155 : decode (xcode 162) 155 = .ok (.invokevirtual 189, 3) := by decide +kernel
theorem d162_158 : decode (xcode 162) 158 = .ok (.ifCond .ne 5, 3) := by decide +kernel
theorem d162_161 : decode (xcode 162) 161 = .ok (.iconst 0, 1) := by decide +kernel
theorem d162_162 : decode (xcode 162) 162 = .ok (.ireturn, 1) := by decide +kernel
theorem d162_163 : decode (xcode 162) 163 = .ok (.aload_n 0, 1) := by decide +kernel
theorem d162_164 : decode (xcode 162) 164 = .ok (.bipush 6, 2) := by decide +kernel
theorem d162_166 : decode (xcode 162) 166 = .ok (.iload 4, 2) := by decide +kernel
theorem d162_168 : decode (xcode 162) 168 = .ok (.iadd, 1) := by decide +kernel
theorem d162_169 : decode (xcode 162) 169 = .ok (.iconst 0, 1) := by decide +kernel
theorem d162_170 : decode (xcode 162) 170 = .ok (.invokevirtual 168, 3) := by decide +kernel
theorem d162_173 : decode (xcode 162) 173 = .ok (.iconst 1, 1) := by decide +kernel
theorem d162_174 : decode (xcode 162) 174 = .ok (.ireturn, 1) := by decide +kernel
noncomputable def f_M_compare_b152 (t0 : Int32) (h : xH) : Option (Int32 × xH) :=
  (f_M_sum h).bind fun q21 =>
  if q21.1 = (0 : Int32) then (
  some (((0 : Int32), q21.2))) else (
  (f_M_puts ((6 : Int32) + t0) (0 : Int32) q21.2).bind fun h25 =>
  some (((1 : Int32), h25)))
set_option maxHeartbeats 4000000 in
set_option maxRecDepth 100000 in
theorem f_M_compare_b152_ok {g : xG} {l : Launch} {d : Nat} {t0 : Int32} {h : xH} {o : (Int32 × xH)} {R : Option xV} {H' : xH} (hD : 6 ≤ d) (hf : f_M_compare_b152 t0 h = some o) (K0 : ∀ (a : Int32) (h1 : xH), o = (a, h1) → R = some (xi a) ∧ H' = h1) : xEv g l d 162 152 [(0, xr 12 (some 0))] [xi t0] h R H' := by
  unfold f_M_compare_b152 at hf
  refine xe_istore (v := t0) (ls2 := [(0, xr 12 (some 0)), (4, xi t0)]) d162_152 mx162 (by decide) rfl rfl ?_
  refine xs_aload_n d162_154 rfl ?_
  obtain ⟨q21, hc20, hf⟩ := lk_b hf
  refine xe_callv1 (as := []) (st := []) (h2 := q21.2) (d2 := d - 1) d162_155 ky162 ml201 st161 (by decide) cn161 rfl na161 (Nat.le_of_ble_eq_true rfl) (by omega) (f_M_sum_ok (by omega) hc20) ?_
  rcases lk_if hf with ⟨hc22, hf⟩ | ⟨hc22, hf⟩
  · refine xs_if_ne (tgt := 163) d162_158 (by decide) (fun _ => ?_) (fun hn => absurd hc22 hn)
    refine xs_iconst (v := 0) d162_161 (by decide) ?_
    obtain ⟨eR, eH⟩ := K0 _ _ (Option.some.inj hf).symm
    subst eR; subst eH
    exact xe_zret d162_162 (Or.inl rfl) rt162
  · refine xs_if_ne (tgt := 163) d162_158 (by decide) (fun hp => absurd hp hc22) (fun _ => ?_)
    refine xs_aload_n d162_163 rfl ?_
    refine xs_bipush (v := 6) d162_164 (by decide) ?_
    refine xs_iload d162_166 rfl ?_
    refine xs_iadd d162_168 ?_
    refine xs_iconst (v := 0) d162_169 (by decide) ?_
    obtain ⟨h25, hc24, hf⟩ := lk_b hf
    refine xe_callv0 (as := [xi ((6 : Int32) + t0), xi (0 : Int32)]) (st := []) (h2 := h25) (d2 := d - 1) d162_170 ky162 ml205 st154 (by decide) cn154 rfl na154 (Nat.le_of_ble_eq_true rfl) (by omega) (f_M_puts_ok (by omega) hc24) ?_
    refine xs_iconst (v := 1) d162_173 (by decide) ?_
    obtain ⟨eR, eH⟩ := K0 _ _ (Option.some.inj hf).symm
    subst eR; subst eH
    exact xe_zret d162_174 (Or.inr rfl) rt162
noncomputable def f_M_compare_b105 (v1 : Int32) (v2 : Int32) (v3 : Int32) (h : xH) : Option (Int32 × xH) :=
  (f_M_makes v2 h).bind fun q15 =>
  if q15.1 = (0 : Int32) then (
  some (((0 : Int32), q15.2))) else (
  if v1 = (60 : Int32) then (
  if v3 = (0 : Int32) then (
  f_M_compare_b152 (0 : Int32) q15.2) else (
  f_M_compare_b152 (1 : Int32) q15.2)) else (
  if v1 = (61 : Int32) then (
  f_M_compare_b152 (2 : Int32) q15.2) else (
  if v3 = (0 : Int32) then (
  f_M_compare_b152 (4 : Int32) q15.2) else (
  f_M_compare_b152 (3 : Int32) q15.2))))
set_option maxHeartbeats 4000000 in
set_option maxRecDepth 100000 in
theorem f_M_compare_b105_ok {g : xG} {l : Launch} {d : Nat} {v1 : Int32} {v2 : Int32} {v3 : Int32} {h : xH} {o : (Int32 × xH)} {R : Option xV} {H' : xH} (hD : 6 ≤ d) (hf : f_M_compare_b105 v1 v2 v3 h = some o) (K0 : ∀ (a : Int32) (h1 : xH), o = (a, h1) → R = some (xi a) ∧ H' = h1) : xEv g l d 162 105 [(0, xr 12 (some 0)), (1, xi v1), (2, xi v2), (3, xi v3)] [] h R H' := by
  unfold f_M_compare_b105 at hf
  refine xs_aload_n d162_105 rfl ?_
  refine xs_iload_n d162_106 rfl ?_
  obtain ⟨q15, hc14, hf⟩ := lk_b hf
  refine xe_callv1 (as := [xi v2]) (st := []) (h2 := q15.2) (d2 := d - 1) d162_107 ky162 ml204 st155 (by decide) cn155 rfl na155 (Nat.le_of_ble_eq_true rfl) (by omega) (f_M_makes_ok (by omega) hc14) ?_
  rcases lk_if hf with ⟨hc16, hf⟩ | ⟨hc16, hf⟩
  · refine xs_if_ne (tgt := 115) d162_110 (by decide) (fun _ => ?_) (fun hn => absurd hc16 hn)
    refine xs_iconst (v := 0) d162_113 (by decide) ?_
    obtain ⟨eR, eH⟩ := K0 _ _ (Option.some.inj hf).symm
    subst eR; subst eH
    exact xe_zret d162_114 (Or.inl rfl) rt162
  · refine xs_if_ne (tgt := 115) d162_110 (by decide) (fun hp => absurd hp hc16) (fun _ => ?_)
    refine xs_iload_n d162_115 rfl ?_
    refine xs_bipush (v := 60) d162_116 (by decide) ?_
    rcases lk_if hf with ⟨hc17, hf⟩ | ⟨hc17, hf⟩
    · refine xs_icmp_ne (tgt := 133) d162_118 (by decide) (fun _ => ?_) (fun hn => absurd hc17 hn)
      refine xs_iload_n d162_121 rfl ?_
      rcases lk_if hf with ⟨hc18, hf⟩ | ⟨hc18, hf⟩
      · refine xs_if_eq (tgt := 129) d162_122 (by decide) (fun _ => ?_) (fun hn => absurd hc18 hn)
        refine xs_iconst (v := 0) d162_129 (by decide) ?_
        refine xs_goto (tgt := 152) d162_130 (by decide) ?_
        refine xs_pick [0] rfl ?_
        exact f_M_compare_b152_ok hD hf K0
      · refine xs_if_eq (tgt := 129) d162_122 (by decide) (fun hp => absurd hp hc18) (fun _ => ?_)
        refine xs_iconst (v := 1) d162_125 (by decide) ?_
        refine xs_goto (tgt := 152) d162_126 (by decide) ?_
        refine xs_pick [0] rfl ?_
        exact f_M_compare_b152_ok hD hf K0
    · refine xs_icmp_ne (tgt := 133) d162_118 (by decide) (fun hp => absurd hp hc17) (fun _ => ?_)
      refine xs_iload_n d162_133 rfl ?_
      refine xs_bipush (v := 61) d162_134 (by decide) ?_
      rcases lk_if hf with ⟨hc26, hf⟩ | ⟨hc26, hf⟩
      · refine xs_icmp_ne (tgt := 143) d162_136 (by decide) (fun _ => ?_) (fun hn => absurd hc26 hn)
        refine xs_iconst (v := 2) d162_139 (by decide) ?_
        refine xs_goto (tgt := 152) d162_140 (by decide) ?_
        refine xs_pick [0] rfl ?_
        exact f_M_compare_b152_ok hD hf K0
      · refine xs_icmp_ne (tgt := 143) d162_136 (by decide) (fun hp => absurd hp hc26) (fun _ => ?_)
        refine xs_iload_n d162_143 rfl ?_
        rcases lk_if hf with ⟨hc27, hf⟩ | ⟨hc27, hf⟩
        · refine xs_if_eq (tgt := 151) d162_144 (by decide) (fun _ => ?_) (fun hn => absurd hc27 hn)
          refine xs_iconst (v := 4) d162_151 (by decide) ?_
          refine xs_pick [0] rfl ?_
          exact f_M_compare_b152_ok hD hf K0
        · refine xs_if_eq (tgt := 151) d162_144 (by decide) (fun hp => absurd hp hc27) (fun _ => ?_)
          refine xs_iconst (v := 3) d162_147 (by decide) ?_
          refine xs_goto (tgt := 152) d162_148 (by decide) ?_
          refine xs_pick [0] rfl ?_
          exact f_M_compare_b152_ok hD hf K0
noncomputable def f_M_compare_b90 (v1 : Int32) (v2 : Int32) (t0 : Int32) (h : xH) : Option (Int32 × xH) :=
  if t0 = (0 : Int32) then (
  f_M_compare_b105 v1 v2 t0 h) else (
  xlet (xsI h 12 8 0 ((h.1 12 8 0) + (1 : Int32))) fun h28 =>
  f_M_compare_b105 v1 v2 t0 h28)
set_option maxHeartbeats 4000000 in
set_option maxRecDepth 100000 in
theorem f_M_compare_b90_ok {g : xG} {l : Launch} {d : Nat} {v1 : Int32} {v2 : Int32} {t0 : Int32} {h : xH} {o : (Int32 × xH)} {R : Option xV} {H' : xH} (hD : 6 ≤ d) (hf : f_M_compare_b90 v1 v2 t0 h = some o) (K0 : ∀ (a : Int32) (h1 : xH), o = (a, h1) → R = some (xi a) ∧ H' = h1) : xEv g l d 162 90 [(0, xr 12 (some 0)), (1, xi v1), (2, xi v2)] [xi t0] h R H' := by
  unfold f_M_compare_b90 at hf
  refine xe_istore_n (v := t0) (ls2 := [(0, xr 12 (some 0)), (1, xi v1), (2, xi v2), (3, xi t0)]) d162_90 mx162 (by decide) rfl rfl ?_
  refine xs_iload_n d162_91 rfl ?_
  rcases lk_if hf with ⟨hc12, hf⟩ | ⟨hc12, hf⟩
  · refine xs_if_eq (tgt := 105) d162_92 (by decide) (fun _ => ?_) (fun hn => absurd hc12 hn)
    exact f_M_compare_b105_ok hD hf K0
  · refine xs_if_eq (tgt := 105) d162_92 (by decide) (fun hp => absurd hp hc12) (fun _ => ?_)
    refine xs_aload_n d162_95 rfl ?_
    refine xs_dup d162_96 rfl ?_
    refine xe_geti d162_97 ky162 fl169 fk12_8 ?_
    refine xs_iconst (v := 1) d162_100 (by decide) ?_
    refine xs_iadd d162_101 ?_
    obtain ⟨h28, eh28, hf⟩ := lk_let hf
    refine xe_puti d162_102 ky162 fl169 fk12_8 ft12_8 eh28 ?_
    exact f_M_compare_b105_ok hD hf K0
noncomputable def f_M_compare_b89 (v1 : Int32) (v2 : Int32) (h : xH) : Option (Int32 × xH) :=
  f_M_compare_b90 v1 v2 (0 : Int32) h
set_option maxHeartbeats 4000000 in
set_option maxRecDepth 100000 in
theorem f_M_compare_b89_ok {g : xG} {l : Launch} {d : Nat} {v1 : Int32} {v2 : Int32} {h : xH} {o : (Int32 × xH)} {R : Option xV} {H' : xH} (hD : 6 ≤ d) (hf : f_M_compare_b89 v1 v2 h = some o) (K0 : ∀ (a : Int32) (h1 : xH), o = (a, h1) → R = some (xi a) ∧ H' = h1) : xEv g l d 162 89 [(0, xr 12 (some 0)), (1, xi v1), (2, xi v2)] [] h R H' := by
  unfold f_M_compare_b89 at hf
  refine xs_iconst (v := 0) d162_89 (by decide) ?_
  exact f_M_compare_b90_ok hD hf K0
noncomputable def f_M_compare_b44 (v1 : Int32) (v2 : Int32) (h : xH) : Option (Int32 × xH) :=
  xlet (xsI h 12 8 0 ((h.1 12 8 0) + (1 : Int32))) fun h10 =>
  if v1 = (61 : Int32) then (
  f_M_compare_b89 v1 v2 h10) else (
  if (h10.1 12 1 0) ≤ (h10.1 12 8 0) then (
  f_M_compare_b89 v1 v2 h10) else (
  if xib (h10.1 12 8 0) 400 then (
  if (h10.2.2.2.1 47 0 (h10.1 12 8 0).toNatClampNeg) = (61 : Int32) then (
  f_M_compare_b90 v1 v2 (1 : Int32) h10) else (
  f_M_compare_b89 v1 v2 h10)) else none))
set_option maxHeartbeats 4000000 in
set_option maxRecDepth 100000 in
theorem f_M_compare_b44_ok {g : xG} {l : Launch} {d : Nat} {v1 : Int32} {v2 : Int32} {h : xH} {o : (Int32 × xH)} {R : Option xV} {H' : xH} (hD : 6 ≤ d) (hf : f_M_compare_b44 v1 v2 h = some o) (K0 : ∀ (a : Int32) (h1 : xH), o = (a, h1) → R = some (xi a) ∧ H' = h1) : xEv g l d 162 44 [(0, xr 12 (some 0)), (1, xi v1), (2, xi v2)] [] h R H' := by
  unfold f_M_compare_b44 at hf
  refine xs_aload_n d162_44 rfl ?_
  refine xs_dup d162_45 rfl ?_
  refine xe_geti d162_46 ky162 fl169 fk12_8 ?_
  refine xs_iconst (v := 1) d162_49 (by decide) ?_
  refine xs_iadd d162_50 ?_
  obtain ⟨h10, eh10, hf⟩ := lk_let hf
  refine xe_puti d162_51 ky162 fl169 fk12_8 ft12_8 eh10 ?_
  refine xs_iload_n d162_54 rfl ?_
  refine xs_bipush (v := 61) d162_55 (by decide) ?_
  rcases lk_if hf with ⟨hc11, hf⟩ | ⟨hc11, hf⟩
  · refine xs_icmp_eq (tgt := 89) d162_57 (by decide) (fun _ => ?_) (fun hn => absurd hc11 hn)
    exact f_M_compare_b89_ok hD hf K0
  · refine xs_icmp_eq (tgt := 89) d162_57 (by decide) (fun hp => absurd hp hc11) (fun _ => ?_)
    refine xs_aload_n d162_60 rfl ?_
    refine xe_geti d162_61 ky162 fl169 fk12_8 ?_
    refine xs_aload_n d162_64 rfl ?_
    refine xe_geti d162_65 ky162 fl162 fk12_1 ?_
    rcases lk_if hf with ⟨hc29, hf⟩ | ⟨hc29, hf⟩
    · refine xs_icmp_ge (tgt := 89) d162_68 (by decide) (fun _ => ?_) (fun hn => absurd hc29 hn)
      exact f_M_compare_b89_ok hD hf K0
    · refine xs_icmp_ge (tgt := 89) d162_68 (by decide) (fun hp => absurd hp hc29) (fun _ => ?_)
      refine xs_aload_n d162_71 rfl ?_
      refine xe_getc (j := 0) d162_72 ky162 fl161 fk12_0 rfl ?_
      refine xs_aload_n d162_75 rfl ?_
      refine xe_geti d162_76 ky162 fl169 fk12_8 ?_
      obtain ⟨hin30, hf⟩ := lk_g hf
      refine xe_bald d162_79 (by decide) ak47 hin30 ?_
      refine xs_bipush (v := 61) d162_80 (by decide) ?_
      rcases lk_if hf with ⟨hc31, hf⟩ | ⟨hc31, hf⟩
      · refine xs_icmp_ne (tgt := 89) d162_82 (by decide) (fun _ => ?_) (fun hn => absurd hc31 hn)
        refine xs_iconst (v := 1) d162_85 (by decide) ?_
        refine xs_goto (tgt := 90) d162_86 (by decide) ?_
        exact f_M_compare_b90_ok hD hf K0
      · refine xs_icmp_ne (tgt := 89) d162_82 (by decide) (fun hp => absurd hp hc31) (fun _ => ?_)
        exact f_M_compare_b89_ok hD hf K0
noncomputable def f_M_compare_e (h : xH) : Option (Int32 × xH) :=
  (f_M_sum h).bind fun q3 =>
  if q3.1 = (0 : Int32) then (
  some (((0 : Int32), q3.2))) else (
  (f_M_see q3.2).bind fun q7 =>
  xlet (q7.2.1 12 8 0) fun v2_8 =>
  if q7.1 = (60 : Int32) then (
  f_M_compare_b44 q7.1 v2_8 q7.2) else (
  if q7.1 = (61 : Int32) then (
  f_M_compare_b44 q7.1 v2_8 q7.2) else (
  if q7.1 = (62 : Int32) then (
  f_M_compare_b44 q7.1 v2_8 q7.2) else (
  (f_M_fails (0 : Int32) v2_8 q7.2).bind fun q36 =>
  if q36.1 = 0 ∨ q36.1 = 1 then (
  some ((q36.1, q36.2))) else none))))
set_option maxHeartbeats 4000000 in
set_option maxRecDepth 100000 in
theorem f_M_compare_e_ok {g : xG} {l : Launch} {d : Nat} {h : xH} {o : (Int32 × xH)} {R : Option xV} {H' : xH} (hD : 6 ≤ d) (hf : f_M_compare_e h = some o) (K0 : ∀ (a : Int32) (h1 : xH), o = (a, h1) → R = some (xi a) ∧ H' = h1) : xEv g l d 162 0 [(0, xr 12 (some 0))] [] h R H' := by
  unfold f_M_compare_e at hf
  refine xs_aload_n d162_0 rfl ?_
  obtain ⟨q3, hc2, hf⟩ := lk_b hf
  refine xe_callv1 (as := []) (st := []) (h2 := q3.2) (d2 := d - 1) d162_1 ky162 ml201 st161 (by decide) cn161 rfl na161 (Nat.le_of_ble_eq_true rfl) (by omega) (f_M_sum_ok (by omega) hc2) ?_
  rcases lk_if hf with ⟨hc4, hf⟩ | ⟨hc4, hf⟩
  · refine xs_if_ne (tgt := 9) d162_4 (by decide) (fun _ => ?_) (fun hn => absurd hc4 hn)
    refine xs_iconst (v := 0) d162_7 (by decide) ?_
    obtain ⟨eR, eH⟩ := K0 _ _ (Option.some.inj hf).symm
    subst eR; subst eH
    exact xe_zret d162_8 (Or.inl rfl) rt162
  · refine xs_if_ne (tgt := 9) d162_4 (by decide) (fun hp => absurd hp hc4) (fun _ => ?_)
    refine xs_aload_n d162_9 rfl ?_
    obtain ⟨q7, hc6, hf⟩ := lk_b hf
    refine xe_callv1 (as := []) (st := []) (h2 := q7.2) (d2 := d - 1) d162_10 ky162 ml185 st146 (by decide) cn146 rfl na146 (Nat.le_of_ble_eq_true rfl) (by omega) (f_M_see_ok (by omega) hc6) ?_
    refine xe_istore_n (v := q7.1) (ls2 := [(0, xr 12 (some 0)), (1, xi q7.1)]) d162_13 mx162 (by decide) rfl rfl ?_
    refine xs_aload_n d162_14 rfl ?_
    refine xe_geti d162_15 ky162 fl169 fk12_8 ?_
    obtain ⟨v2_8, ev2_8, hf⟩ := lk_let hf
    refine xe_istore_n (v := v2_8) (ls2 := [(0, xr 12 (some 0)), (1, xi q7.1), (2, xi v2_8)]) d162_18 mx162 (by decide) ev2_8 rfl ?_
    refine xs_iload_n d162_19 rfl ?_
    refine xs_bipush (v := 60) d162_20 (by decide) ?_
    rcases lk_if hf with ⟨hc9, hf⟩ | ⟨hc9, hf⟩
    · refine xs_icmp_eq (tgt := 44) d162_22 (by decide) (fun _ => ?_) (fun hn => absurd hc9 hn)
      exact f_M_compare_b44_ok hD hf K0
    · refine xs_icmp_eq (tgt := 44) d162_22 (by decide) (fun hp => absurd hp hc9) (fun _ => ?_)
      refine xs_iload_n d162_25 rfl ?_
      refine xs_bipush (v := 61) d162_26 (by decide) ?_
      rcases lk_if hf with ⟨hc32, hf⟩ | ⟨hc32, hf⟩
      · refine xs_icmp_eq (tgt := 44) d162_28 (by decide) (fun _ => ?_) (fun hn => absurd hc32 hn)
        exact f_M_compare_b44_ok hD hf K0
      · refine xs_icmp_eq (tgt := 44) d162_28 (by decide) (fun hp => absurd hp hc32) (fun _ => ?_)
        refine xs_iload_n d162_31 rfl ?_
        refine xs_bipush (v := 62) d162_32 (by decide) ?_
        rcases lk_if hf with ⟨hc33, hf⟩ | ⟨hc33, hf⟩
        · refine xs_icmp_eq (tgt := 44) d162_34 (by decide) (fun _ => ?_) (fun hn => absurd hc33 hn)
          exact f_M_compare_b44_ok hD hf K0
        · refine xs_icmp_eq (tgt := 44) d162_34 (by decide) (fun hp => absurd hp hc33) (fun _ => ?_)
          refine xs_aload_n d162_37 rfl ?_
          refine xs_iconst (v := 0) d162_38 (by decide) ?_
          refine xs_iload_n d162_39 rfl ?_
          obtain ⟨q36, hc35, hf⟩ := lk_b hf
          refine xe_callv1 (as := [xi (0 : Int32), xi v2_8]) (st := []) (h2 := q36.2) (d2 := d - 1) d162_40 ky162 ml189 st145 (by decide) cn145 rfl na145 (Nat.le_of_ble_eq_true rfl) (by omega) (f_M_fails_ok (by omega) hc35) ?_
          obtain ⟨hz37, hf⟩ := lk_g hf
          obtain ⟨eR, eH⟩ := K0 _ _ (Option.some.inj hf).symm
          subst eR; subst eH
          exact xe_zret d162_43 hz37 rt162
noncomputable def f_M_compare (h : xH) : Option (Int32 × xH) := f_M_compare_e h
theorem f_M_compare_ok {g : xG} {l : Launch} {d : Nat} {h : xH} {r : Int32} {h1 : xH} (hD : 6 ≤ d) (hf : f_M_compare h = some (r, h1)) : xC g l d 162 [xr 12 (some 0)] h (some (xi r)) h1 :=
  xC_of2 (by decide) mx162 (Nat.le_of_ble_eq_true rfl) (f_M_compare_e_ok hD hf (fun _ _ e => by cases e; exact ⟨rfl, rfl⟩))
theorem d163_0 : decode (xcode 163) 0 = .ok (.iconst 1, 1) := by decide +kernel
theorem d163_1 : decode (xcode 163) 1 = .ok (.istore_n 1, 1) := by decide +kernel
theorem d163_2 : decode (xcode 163) 2 = .ok (.iload_n 1, 1) := by decide +kernel
theorem d163_3 : decode (xcode 163) 3 = .ok (.ifCond .eq 72, 3) := by decide +kernel
theorem d163_6 : decode (xcode 163) 6 = .ok (.iconst 0, 1) := by decide +kernel
theorem d163_7 : decode (xcode 163) 7 = .ok (.istore_n 1, 1) := by decide +kernel
theorem d163_8 : decode (xcode 163) 8 = .ok (.aload_n 0, 1) := by decide +kernel
theorem d163_9 : decode (xcode 163) 9 = .ok (.invokevirtual 99, 3) := by decide +kernel
theorem d163_12 : decode (xcode 163) 12 = .ok (.istore_n 2, 1) := by decide +kernel
theorem d163_13 : decode (xcode 163) 13 = .ok (.aload_n 0, 1) := by decide +kernel
theorem d163_14 : decode (xcode 163) 14 = .ok (.ldc2_w 192, 3) := by decide +kernel
theorem d163_17 : decode (xcode 163) 17 = .ok (.invokevirtual 107, 3) := by decide +kernel
theorem d163_20 : decode (xcode 163) 20 = .ok (.ifCond .eq 23, 3) := by decide +kernel
theorem d163_23 : decode (xcode 163) 23 = .ok (.aload_n 0, 1) := by decide +kernel
theorem d163_24 : decode (xcode 163) 24 = .ok (.bipush 11, 2) := by decide +kernel
theorem d163_26 : decode (xcode 163) 26 = .ok (.invokevirtual 194, 3) := by decide +kernel
theorem d163_29 : decode (xcode 163) 29 = .ok (.ifCond .ne 5, 3) := by decide +kernel
theorem d163_32 : decode (xcode 163) 32 = .ok (.iconst 0, 1) := by decide +kernel
theorem d163_33 : decode (xcode 163) 33 = .ok (.ireturn, 1) := by decide +kernel
theorem d163_34 : decode (xcode 163) 34 = .ok (.aload_n 0, 1) := by decide +kernel
theorem d163_35 : decode (xcode 163) 35 = .ok (.invokevirtual 111, 3) := by decide +kernel
theorem d163_38 : decode (xcode 163) 38 = .ok (.iconst 1, 1) := by decide +kernel
theorem d163_39 : decode (xcode 163) 39 = .ok (.istore_n 1, 1) := by decide +kernel
theorem d163_40 : decode (xcode 163) 40 = .ok (.goto 32, 3) := by decide +kernel
theorem d163_43 : decode (xcode 163) 43 = .ok (.iload_n 2, 1) := by decide +kernel
theorem d163_44 : decode (xcode 163) 44 = .ok (.bipush 91, 2) := by decide +kernel
theorem d163_46 : decode (xcode 163) 46 = .ok (.if_icmp .ne 26, 3) := by decide +kernel
theorem d163_49 : decode (xcode 163) 49 = .ok (.aload_n 0, 1) := by decide +kernel
theorem d163_50 : decode (xcode 163) 50 = .ok (.bipush 91, 2) := by decide +kernel
theorem d163_52 : decode (xcode 163) 52 = .ok (.invokevirtual 194, 3) := by decide +kernel
theorem d163_55 : decode (xcode 163) 55 = .ok (.ifCond .ne 5, 3) := by decide +kernel
theorem d163_58 : decode (xcode 163) 58 = .ok (.iconst 0, 1) := by decide +kernel
theorem d163_59 : decode (xcode 163) 59 = .ok (.ireturn, 1) := by decide +kernel
theorem d163_60 : decode (xcode 163) 60 = .ok (.aload_n 0, 1) := by decide +kernel
theorem d163_61 : decode (xcode 163) 61 = .ok (.dup, 1) := by decide +kernel
theorem d163_62 : decode (xcode 163) 62 = .ok (.getfield 96, 3) := by decide +kernel
theorem d163_65 : decode (xcode 163) 65 = .ok (.iconst 1, 1) := by decide +kernel
theorem d163_66 : decode (xcode 163) 66 = .ok (.iadd, 1) := by decide +kernel
theorem d163_67 : decode (xcode 163) 67 = .ok (.putfield 96, 3) := by decide +kernel
theorem d163_70 : decode (xcode 163) 70 = .ok (.iconst 1, 1) := by decide +kernel
theorem d163_71 : decode (xcode 163) 71 = .ok (.istore_n 1, 1) := by decide +kernel
theorem d163_72 : decode (xcode 163) 72 = .ok (.goto (-70), 3) := by decide +kernel
theorem d163_75 : decode (xcode 163) 75 = .ok (.aload_n 0, 1) := by decide +kernel
theorem d163_76 : decode (xcode 163) 76 = .ok (.invokevirtual 197, 3) := by decide +kernel
theorem d163_79 : decode (xcode 163) 79 = .ok (.ireturn, 1) := by decide +kernel
noncomputable def f_M_fact_b75 (h : xH) : Option (Int32 × xH) :=
  (f_M_compare h).bind fun q4 =>
  if q4.1 = 0 ∨ q4.1 = 1 then (
  some ((q4.1, q4.2))) else none
set_option maxHeartbeats 4000000 in
set_option maxRecDepth 100000 in
theorem f_M_fact_b75_ok {g : xG} {l : Launch} {d : Nat} {h : xH} {o : (Int32 × xH)} {R : Option xV} {H' : xH} (hD : 7 ≤ d) (hf : f_M_fact_b75 h = some o) (K0 : ∀ (a : Int32) (h1 : xH), o = (a, h1) → R = some (xi a) ∧ H' = h1) : xEv g l d 163 75 [(0, xr 12 (some 0))] [] h R H' := by
  unfold f_M_fact_b75 at hf
  refine xs_aload_n d163_75 rfl ?_
  obtain ⟨q4, hc3, hf⟩ := lk_b hf
  refine xe_callv1 (as := []) (st := []) (h2 := q4.2) (d2 := d - 1) d163_76 ky163 ml211 st162 (by decide) cn162 rfl na162 (Nat.le_of_ble_eq_true rfl) (by omega) (f_M_compare_ok (by omega) hc3) ?_
  obtain ⟨hz5, hf⟩ := lk_g hf
  obtain ⟨eR, eH⟩ := K0 _ _ (Option.some.inj hf).symm
  subst eR; subst eH
  exact xe_zret d163_79 hz5 rt163
noncomputable def f_M_fact_b72 (v1 : Int32) (h : xH) : Option ((Int32 × xH) ⊕ (Int32 × xH)) :=
  some (Sum.inl (v1, h))
set_option maxHeartbeats 4000000 in
set_option maxRecDepth 100000 in
theorem f_M_fact_b72_ok {g : xG} {l : Launch} {d : Nat} {v1 : Int32} {h : xH} {o : ((Int32 × xH) ⊕ (Int32 × xH))} {R : Option xV} {H' : xH} (hD : 7 ≤ d) (hf : f_M_fact_b72 v1 h = some o) (K1 : ∀ (w1 : Int32) (h1 : xH), o = Sum.inl (w1, h1) → xEv g l d 163 2 [(0, xr 12 (some 0)), (1, xi w1)] [] h1 R H') (K0 : ∀ (a : Int32) (h1 : xH), o = Sum.inr ((a, h1)) → R = some (xi a) ∧ H' = h1) : xEv g l d 163 72 [(0, xr 12 (some 0)), (1, xi v1)] [] h R H' := by
  unfold f_M_fact_b72 at hf
  refine xs_goto (tgt := 2) d163_72 (by decide) ?_
  exact K1 _ _ (Option.some.inj hf).symm
noncomputable def f_M_fact_s2 (v1 : Int32) (h : xH) : Option ((Int32 × xH) ⊕ (Int32 × xH)) :=
  if v1 = (0 : Int32) then (
  xup (f_M_fact_b75 h)) else (
  (f_M_see h).bind fun q8 =>
  (f_M_isWord (7237492 : Int64) q8.2).bind fun q11 =>
  if q11.1 = (0 : Int32) then (
  if q8.1 = (91 : Int32) then (
  (f_M_opens (91 : Int32) q11.2).bind fun q16 =>
  if q16.1 = (0 : Int32) then (
  some (Sum.inr (((0 : Int32), q16.2)))) else (
  xlet (xsI q16.2 12 8 0 ((q16.2.1 12 8 0) + (1 : Int32))) fun h18 =>
  f_M_fact_b72 (1 : Int32) h18)) else (
  f_M_fact_b72 (0 : Int32) q11.2)) else (
  (f_M_opens (11 : Int32) q11.2).bind fun q21 =>
  if q21.1 = (0 : Int32) then (
  some (Sum.inr (((0 : Int32), q21.2)))) else (
  (f_M_passWord q21.2).bind fun h25 =>
  f_M_fact_b72 (1 : Int32) h25)))
set_option maxHeartbeats 4000000 in
set_option maxRecDepth 100000 in
theorem f_M_fact_s2_ok {g : xG} {l : Launch} {d : Nat} {v1 : Int32} {h : xH} {o : ((Int32 × xH) ⊕ (Int32 × xH))} {R : Option xV} {H' : xH} (hD : 7 ≤ d) (hf : f_M_fact_s2 v1 h = some o) (K1 : ∀ (w1 : Int32) (h1 : xH), o = Sum.inl (w1, h1) → xEv g l d 163 2 [(0, xr 12 (some 0)), (1, xi w1)] [] h1 R H') (K0 : ∀ (a : Int32) (h1 : xH), o = Sum.inr ((a, h1)) → R = some (xi a) ∧ H' = h1) : xEv g l d 163 2 [(0, xr 12 (some 0)), (1, xi v1)] [] h R H' := by
  unfold f_M_fact_s2 at hf
  refine xs_iload_n d163_2 rfl ?_
  rcases lk_if hf with ⟨hc1, hf⟩ | ⟨hc1, hf⟩
  · refine xs_if_eq (tgt := 75) d163_3 (by decide) (fun _ => ?_) (fun hn => absurd hc1 hn)
    refine xs_pick [0] rfl ?_
    obtain ⟨x0, hf, ex0⟩ := lk_up hf
    exact f_M_fact_b75_ok hD hf (fun u0 u1 e => K0 u0 u1 (ex0.trans (congrArg Sum.inr e)))
  · refine xs_if_eq (tgt := 75) d163_3 (by decide) (fun hp => absurd hp hc1) (fun _ => ?_)
    refine xs_iconst (v := 0) d163_6 (by decide) ?_
    refine xe_istore_n (v := (0 : Int32)) (ls2 := [(0, xr 12 (some 0)), (1, xi (0 : Int32))]) d163_7 mx163 (by decide) rfl rfl ?_
    refine xs_aload_n d163_8 rfl ?_
    obtain ⟨q8, hc7, hf⟩ := lk_b hf
    refine xe_callv1 (as := []) (st := []) (h2 := q8.2) (d2 := d - 1) d163_9 ky163 ml185 st146 (by decide) cn146 rfl na146 (Nat.le_of_ble_eq_true rfl) (by omega) (f_M_see_ok (by omega) hc7) ?_
    refine xe_istore_n (v := q8.1) (ls2 := [(0, xr 12 (some 0)), (1, xi (0 : Int32)), (2, xi q8.1)]) d163_12 mx163 (by decide) rfl rfl ?_
    refine xs_aload_n d163_13 rfl ?_
    refine xs_ldc2 (v := 7237492) d163_14 cl12_192 ?_
    obtain ⟨q11, hc10, hf⟩ := lk_b hf
    refine xe_callv1 (as := [xl (7237492 : Int64)]) (st := []) (h2 := q11.2) (d2 := d - 1) d163_17 ky163 ml187 st149 (by decide) cn149 rfl na149 (Nat.le_of_ble_eq_true rfl) (by omega) (f_M_isWord_ok (by omega) hc10) ?_
    rcases lk_if hf with ⟨hc12, hf⟩ | ⟨hc12, hf⟩
    · refine xs_if_eq (tgt := 43) d163_20 (by decide) (fun _ => ?_) (fun hn => absurd hc12 hn)
      refine xs_iload_n d163_43 rfl ?_
      refine xs_bipush (v := 91) d163_44 (by decide) ?_
      rcases lk_if hf with ⟨hc13, hf⟩ | ⟨hc13, hf⟩
      · refine xs_icmp_ne (tgt := 72) d163_46 (by decide) (fun _ => ?_) (fun hn => absurd hc13 hn)
        refine xs_aload_n d163_49 rfl ?_
        refine xs_bipush (v := 91) d163_50 (by decide) ?_
        obtain ⟨q16, hc15, hf⟩ := lk_b hf
        refine xe_callv1 (as := [xi (91 : Int32)]) (st := []) (h2 := q16.2) (d2 := d - 1) d163_52 ky163 ml210 st156 (by decide) cn156 rfl na156 (Nat.le_of_ble_eq_true rfl) (by omega) (f_M_opens_ok (by omega) hc15) ?_
        rcases lk_if hf with ⟨hc17, hf⟩ | ⟨hc17, hf⟩
        · refine xs_if_ne (tgt := 60) d163_55 (by decide) (fun _ => ?_) (fun hn => absurd hc17 hn)
          refine xs_iconst (v := 0) d163_58 (by decide) ?_
          obtain ⟨eR, eH⟩ := K0 _ _ (Option.some.inj hf).symm
          subst eR; subst eH
          exact xe_zret d163_59 (Or.inl rfl) rt163
        · refine xs_if_ne (tgt := 60) d163_55 (by decide) (fun hp => absurd hp hc17) (fun _ => ?_)
          refine xs_aload_n d163_60 rfl ?_
          refine xs_dup d163_61 rfl ?_
          refine xe_geti d163_62 ky163 fl169 fk12_8 ?_
          refine xs_iconst (v := 1) d163_65 (by decide) ?_
          refine xs_iadd d163_66 ?_
          obtain ⟨h18, eh18, hf⟩ := lk_let hf
          refine xe_puti d163_67 ky163 fl169 fk12_8 ft12_8 eh18 ?_
          refine xs_iconst (v := 1) d163_70 (by decide) ?_
          refine xe_istore_n (v := (1 : Int32)) (ls2 := [(0, xr 12 (some 0)), (1, xi (1 : Int32)), (2, xi q8.1)]) d163_71 mx163 (by decide) rfl rfl ?_
          refine xs_pick [0, 1] rfl ?_
          exact f_M_fact_b72_ok hD hf K1 K0
      · refine xs_icmp_ne (tgt := 72) d163_46 (by decide) (fun hp => absurd hp hc13) (fun _ => ?_)
        refine xs_pick [0, 1] rfl ?_
        exact f_M_fact_b72_ok hD hf K1 K0
    · refine xs_if_eq (tgt := 43) d163_20 (by decide) (fun hp => absurd hp hc12) (fun _ => ?_)
      refine xs_aload_n d163_23 rfl ?_
      refine xs_bipush (v := 11) d163_24 (by decide) ?_
      obtain ⟨q21, hc20, hf⟩ := lk_b hf
      refine xe_callv1 (as := [xi (11 : Int32)]) (st := []) (h2 := q21.2) (d2 := d - 1) d163_26 ky163 ml210 st156 (by decide) cn156 rfl na156 (Nat.le_of_ble_eq_true rfl) (by omega) (f_M_opens_ok (by omega) hc20) ?_
      rcases lk_if hf with ⟨hc22, hf⟩ | ⟨hc22, hf⟩
      · refine xs_if_ne (tgt := 34) d163_29 (by decide) (fun _ => ?_) (fun hn => absurd hc22 hn)
        refine xs_iconst (v := 0) d163_32 (by decide) ?_
        obtain ⟨eR, eH⟩ := K0 _ _ (Option.some.inj hf).symm
        subst eR; subst eH
        exact xe_zret d163_33 (Or.inl rfl) rt163
      · refine xs_if_ne (tgt := 34) d163_29 (by decide) (fun hp => absurd hp hc22) (fun _ => ?_)
        refine xs_aload_n d163_34 rfl ?_
        obtain ⟨h25, hc24, hf⟩ := lk_b hf
        refine xe_callv0 (as := []) (st := []) (h2 := h25) (d2 := d - 1) d163_35 ky163 ml192 st150 (by decide) cn150 rfl na150 (Nat.le_of_ble_eq_true rfl) (by omega) (f_M_passWord_ok (by omega) hc24) ?_
        refine xs_iconst (v := 1) d163_38 (by decide) ?_
        refine xe_istore_n (v := (1 : Int32)) (ls2 := [(0, xr 12 (some 0)), (1, xi (1 : Int32)), (2, xi q8.1)]) d163_39 mx163 (by decide) rfl rfl ?_
        refine xs_goto (tgt := 72) d163_40 (by decide) ?_
        refine xs_pick [0, 1] rfl ?_
        exact f_M_fact_b72_ok hD hf K1 K0
noncomputable def f_M_fact_l2 (v1 : Int32) (h : xH) : Option (Int32 × xH) :=
  whl (fun s => f_M_fact_s2 s.1 s.2) (v1, h)
theorem f_M_fact_l2_ok {g : xG} {l : Launch} {d : Nat} {v1 : Int32} {h : xH} {o : (Int32 × xH)} {R : Option xV} {H' : xH} (hD : 7 ≤ d) (hf : f_M_fact_l2 v1 h = some o) (K0 : ∀ (a : Int32) (h1 : xH), o = (a, h1) → R = some (xi a) ∧ H' = h1) : xEv g l d 163 2 [(0, xr 12 (some 0)), (1, xi v1)] [] h R H' := by
  obtain ⟨n, hn⟩ := whl_iff.mp hf
  clear hf
  induction n generalizing v1 h with
  | zero => cases hn
  | succ n ih =>
    obtain ⟨o2, hs, hn⟩ := lk_b (show (f_M_fact_s2 v1 h).bind (fun o => Sum.elim (itn _ n) some o) = some o from hn)
    exact f_M_fact_s2_ok hD hs (fun u0 u1 e => ih (by rw [e] at hn; exact hn)) (fun u0 u1 e => K0 u0 u1 (by rw [e] at hn; exact (Option.some.inj hn).symm))
noncomputable def f_M_fact_e (h : xH) : Option (Int32 × xH) :=
  f_M_fact_l2 (1 : Int32) h
set_option maxHeartbeats 4000000 in
set_option maxRecDepth 100000 in
theorem f_M_fact_e_ok {g : xG} {l : Launch} {d : Nat} {h : xH} {o : (Int32 × xH)} {R : Option xV} {H' : xH} (hD : 7 ≤ d) (hf : f_M_fact_e h = some o) (K0 : ∀ (a : Int32) (h1 : xH), o = (a, h1) → R = some (xi a) ∧ H' = h1) : xEv g l d 163 0 [(0, xr 12 (some 0))] [] h R H' := by
  unfold f_M_fact_e at hf
  refine xs_iconst (v := 1) d163_0 (by decide) ?_
  refine xe_istore_n (v := (1 : Int32)) (ls2 := [(0, xr 12 (some 0)), (1, xi (1 : Int32))]) d163_1 mx163 (by decide) rfl rfl ?_
  exact f_M_fact_l2_ok hD hf K0
noncomputable def f_M_fact (h : xH) : Option (Int32 × xH) := f_M_fact_e h
theorem f_M_fact_ok {g : xG} {l : Launch} {d : Nat} {h : xH} {r : Int32} {h1 : xH} (hD : 7 ≤ d) (hf : f_M_fact h = some (r, h1)) : xC g l d 163 [xr 12 (some 0)] h (some (xi r)) h1 :=
  xC_of2 (by decide) mx163 (Nat.le_of_ble_eq_true rfl) (f_M_fact_e_ok hD hf (fun _ _ e => by cases e; exact ⟨rfl, rfl⟩))
theorem d164_0 : decode (xcode 164) 0 = .ok (.iconst 0, 1) := by decide +kernel
theorem d164_1 : decode (xcode 164) 1 = .ok (.istore_n 1, 1) := by decide +kernel
theorem d164_2 : decode (xcode 164) 2 = .ok (.iload_n 1, 1) := by decide +kernel
theorem d164_3 : decode (xcode 164) 3 = .ok (.aload_n 0, 1) := by decide +kernel
theorem d164_4 : decode (xcode 164) 4 = .ok (.getfield 161, 3) := by decide +kernel
theorem d164_7 : decode (xcode 164) 7 = .ok (.if_icmp .ge 22, 3) := by decide +kernel
theorem d164_10 : decode (xcode 164) 10 = .ok (.aload_n 0, 1) := by decide +kernel
theorem d164_11 : decode (xcode 164) 11 = .ok (.getfield 29, 3) := by decide +kernel
theorem d164_14 : decode (xcode 164) 14 = .ok (.iload_n 1, 1) := by decide +kernel
theorem d164_15 : decode (xcode 164) 15 = .ok (.iaload, 1) := by decide +kernel
theorem d164_16 : decode (xcode 164) 16 = .ok (.bipush 91, 2) := by decide +kernel
theorem d164_18 : decode (xcode 164) 18 = .ok (.if_icmp .ne 5, 3) := by decide +kernel
theorem d164_21 : decode (xcode 164) 21 = .ok (.iconst 1, 1) := by decide +kernel
theorem d164_22 : decode (xcode 164) 22 = .ok (.ireturn, 1) := by decide +kernel
theorem d164_23 : decode (xcode 164) 23 = .ok (.iinc 1 1, 3) := by decide +kernel
theorem d164_26 : decode (xcode 164) 26 = .ok (.goto (-24), 3) := by decide +kernel
theorem d164_29 : decode (xcode 164) 29 = .ok (.iconst 0, 1) := by decide +kernel
theorem d164_30 : decode (xcode 164) 30 = .ok (.ireturn, 1) := by decide +kernel
noncomputable def f_M_isInside_0_s2 (v1 : Int32) (h : xH) : Option ((Int32) ⊕ Int32) :=
  if (h.1 12 16 0) ≤ v1 then (
  some (Sum.inr ((0 : Int32)))) else (
  if xib v1 400 then (
  if (h.2.2.2.1 53 0 (v1).toNatClampNeg) = (91 : Int32) then (
  some (Sum.inr ((1 : Int32)))) else (
  xlet (v1 + (1 : Int32)) fun v1_4 =>
  some (Sum.inl v1_4))) else none)
set_option maxHeartbeats 4000000 in
set_option maxRecDepth 100000 in
theorem f_M_isInside_0_s2_ok {g : xG} {l : Launch} {d : Nat} {v1 : Int32} {h : xH} {o : ((Int32) ⊕ Int32)} {R : Option xV} (hD : 0 ≤ d) (hf : f_M_isInside_0_s2 v1 h = some o) (K1 : ∀ (w1 : Int32), o = Sum.inl w1 → xEv g l d 164 2 [(0, xr 12 (some 0)), (1, xi w1)] [] h R h) (K0 : ∀ (a : Int32), o = Sum.inr (a) → R = some (xi a)) : xEv g l d 164 2 [(0, xr 12 (some 0)), (1, xi v1)] [] h R h := by
  unfold f_M_isInside_0_s2 at hf
  refine xs_iload_n d164_2 rfl ?_
  refine xs_aload_n d164_3 rfl ?_
  refine xe_geti d164_4 ky164 fl177 fk12_16 ?_
  rcases lk_if hf with ⟨hc1, hf⟩ | ⟨hc1, hf⟩
  · refine xs_icmp_ge (tgt := 29) d164_7 (by decide) (fun _ => ?_) (fun hn => absurd hc1 hn)
    refine xs_iconst (v := 0) d164_29 (by decide) ?_
    obtain eR := K0 _ (Option.some.inj hf).symm
    subst eR
    exact xe_zret d164_30 (Or.inl rfl) rt164
  · refine xs_icmp_ge (tgt := 29) d164_7 (by decide) (fun hp => absurd hp hc1) (fun _ => ?_)
    refine xs_aload_n d164_10 rfl ?_
    refine xe_getc (j := 0) d164_11 ky164 fl176 fk12_15 rfl ?_
    refine xs_iload_n d164_14 rfl ?_
    obtain ⟨hin2, hf⟩ := lk_g hf
    refine xe_iald d164_15 (by decide) ak53 hin2 ?_
    refine xs_bipush (v := 91) d164_16 (by decide) ?_
    rcases lk_if hf with ⟨hc3, hf⟩ | ⟨hc3, hf⟩
    · refine xs_icmp_ne (tgt := 23) d164_18 (by decide) (fun _ => ?_) (fun hn => absurd hc3 hn)
      refine xs_iconst (v := 1) d164_21 (by decide) ?_
      obtain eR := K0 _ (Option.some.inj hf).symm
      subst eR
      exact xe_zret d164_22 (Or.inr rfl) rt164
    · refine xs_icmp_ne (tgt := 23) d164_18 (by decide) (fun hp => absurd hp hc3) (fun _ => ?_)
      obtain ⟨v1_4, ev1_4, hf⟩ := lk_let hf
      refine xe_iinc (v := v1_4) (b := 1) (ls2 := [(0, xr 12 (some 0)), (1, xi v1_4)]) d164_23 mx164 (by decide) rfl (by decide) ev1_4 rfl ?_
      refine xs_goto (tgt := 2) d164_26 (by decide) ?_
      exact K1 _ (Option.some.inj hf).symm
noncomputable def f_M_isInside_0_l2 (v1 : Int32) (h : xH) : Option Int32 :=
  whl (fun s => f_M_isInside_0_s2 s h) v1
theorem f_M_isInside_0_l2_ok {g : xG} {l : Launch} {d : Nat} {v1 : Int32} {h : xH} {o : Int32} {R : Option xV} (hD : 0 ≤ d) (hf : f_M_isInside_0_l2 v1 h = some o) (K0 : ∀ (a : Int32), o = a → R = some (xi a)) : xEv g l d 164 2 [(0, xr 12 (some 0)), (1, xi v1)] [] h R h := by
  obtain ⟨n, hn⟩ := whl_iff.mp hf
  clear hf
  induction n generalizing v1 with
  | zero => cases hn
  | succ n ih =>
    obtain ⟨o2, hs, hn⟩ := lk_b (show (f_M_isInside_0_s2 v1 h).bind (fun o => Sum.elim (itn _ n) some o) = some o from hn)
    exact f_M_isInside_0_s2_ok hD hs (fun u0 e => ih (by rw [e] at hn; exact hn)) (fun u0 e => K0 u0 (by rw [e] at hn; exact (Option.some.inj hn).symm))
noncomputable def f_M_isInside_0_e (h : xH) : Option Int32 :=
  f_M_isInside_0_l2 (0 : Int32) h
set_option maxHeartbeats 4000000 in
set_option maxRecDepth 100000 in
theorem f_M_isInside_0_e_ok {g : xG} {l : Launch} {d : Nat} {h : xH} {o : Int32} {R : Option xV} (hD : 0 ≤ d) (hf : f_M_isInside_0_e h = some o) (K0 : ∀ (a : Int32), o = a → R = some (xi a)) : xEv g l d 164 0 [(0, xr 12 (some 0))] [] h R h := by
  unfold f_M_isInside_0_e at hf
  refine xs_iconst (v := 0) d164_0 (by decide) ?_
  refine xe_istore_n (v := (0 : Int32)) (ls2 := [(0, xr 12 (some 0)), (1, xi (0 : Int32))]) d164_1 mx164 (by decide) rfl rfl ?_
  exact f_M_isInside_0_l2_ok hD hf K0
noncomputable def f_M_isInside_0 (h : xH) : Option Int32 := f_M_isInside_0_e h
theorem f_M_isInside_0_ok {g : xG} {l : Launch} {d : Nat} {h : xH} {r : Int32} (hD : 0 ≤ d) (hf : f_M_isInside_0 h = some r) : xC g l d 164 [xr 12 (some 0)] h (some (xi r)) h :=
  xC_of2 (by decide) mx164 (Nat.le_of_ble_eq_true rfl) (f_M_isInside_0_e_ok hD hf (fun _ e => by rw [e]))
theorem d165_0 : decode (xcode 165) 0 = .ok (.aload_n 0, 1) := by decide +kernel
theorem d165_1 : decode (xcode 165) 1 = .ok (.iconst 3, 1) := by decide +kernel
theorem d165_2 : decode (xcode 165) 2 = .ok (.invokevirtual 200, 3) := by decide +kernel
theorem d165_5 : decode (xcode 165) 5 = .ok (.aload_n 0, 1) := by decide +kernel
theorem d165_6 : decode (xcode 165) 6 = .ok (.invokevirtual 99, 3) := by decide +kernel
theorem d165_9 : decode (xcode 165) 9 = .ok (.bipush 93, 2) := by decide +kernel
theorem d165_11 : decode (xcode 165) 11 = .ok (.if_icmp .ne 53, 3) := by decide +kernel
theorem d165_14 : decode (xcode 165) 14 = .ok (.aload_n 0, 1) := by decide +kernel
theorem d165_15 : decode (xcode 165) 15 = .ok (.invokevirtual 203, 3) := by decide +kernel
theorem d165_18 : decode (xcode 165) 18 = .ok (.ifCond .eq 46, 3) := by decide +kernel
theorem d165_21 : decode (xcode 165) 21 = .ok (.aload_n 0, 1) := by decide +kernel
theorem d165_22 : decode (xcode 165) 22 = .ok (.iconst 1, 1) := by decide +kernel
theorem d165_23 : decode (xcode 165) 23 = .ok (.invokevirtual 200, 3) := by decide +kernel
theorem d165_26 : decode (xcode 165) 26 = .ok (.aload_n 0, 1) := by decide +kernel
theorem d165_27 : decode (xcode 165) 27 = .ok (.dup, 1) := by decide +kernel
theorem d165_28 : decode (xcode 165) 28 = .ok (.getfield 161, 3) := by decide +kernel
theorem d165_31 : decode (xcode 165) 31 = .ok (.iconst 1, 1) := by decide +kernel
theorem d165_32 : decode (xcode 165) 32 = .ok (.isub, 1) := by decide +kernel
theorem d165_33 : decode (xcode 165) 33 = .ok (.putfield 161, 3) := by decide +kernel
theorem d165_36 : decode (xcode 165) 36 = .ok (.aload_n 0, 1) := by decide +kernel
theorem d165_37 : decode (xcode 165) 37 = .ok (.dup, 1) := by decide +kernel
theorem d165_38 : decode (xcode 165) 38 = .ok (.getfield 158, 3) := by decide +kernel
theorem d165_41 : decode (xcode 165) 41 = .ok (.iconst 1, 1) := by decide +kernel
theorem d165_42 : decode (xcode 165) 42 = .ok (.isub, 1) := by decide +kernel
theorem d165_43 : decode (xcode 165) 43 = .ok (.putfield 158, 3) := by decide +kernel
theorem d165_46 : decode (xcode 165) 46 = .ok (.aload_n 0, 1) := by decide +kernel
theorem d165_47 : decode (xcode 165) 47 = .ok (.dup, 1) := by decide +kernel
theorem d165_48 : decode (xcode 165) 48 = .ok (.getfield 96, 3) := by decide +kernel
theorem d165_51 : decode (xcode 165) 51 = .ok (.iconst 1, 1) := by decide +kernel
theorem d165_52 : decode (xcode 165) 52 = .ok (.iadd, 1) := by decide +kernel
theorem d165_53 : decode (xcode 165) 53 = .ok (.putfield 96, 3) := by decide +kernel
theorem d165_56 : decode (xcode 165) 56 = .ok (.aload_n 0, 1) := by decide +kernel
theorem d165_57 : decode (xcode 165) 57 = .ok (.iconst 3, 1) := by decide +kernel
theorem d165_58 : decode (xcode 165) 58 = .ok (.invokevirtual 200, 3) := by decide +kernel
theorem d165_61 : decode (xcode 165) 61 = .ok (.goto (-56), 3) := by decide +kernel
theorem d165_64 : decode (xcode 165) 64 = .ok (.return_, 1) := by decide +kernel
noncomputable def f_M_closes_s5 (h : xH) : Option ((xH) ⊕ xH) :=
  (f_M_see h).bind fun q6 =>
  if q6.1 = (93 : Int32) then (
  (f_M_isInside_0 q6.2).bind fun r8 =>
  if r8 = (0 : Int32) then (
  some (Sum.inr (q6.2))) else (
  (f_M_layDown (1 : Int32) q6.2).bind fun h13 =>
  xlet (xsI h13 12 16 0 ((h13.1 12 16 0) - (1 : Int32))) fun h14 =>
  xlet (xsI h14 12 13 0 ((h14.1 12 13 0) - (1 : Int32))) fun h15 =>
  xlet (xsI h15 12 8 0 ((h15.1 12 8 0) + (1 : Int32))) fun h16 =>
  (f_M_layDown (3 : Int32) h16).bind fun h19 =>
  some (Sum.inl h19))) else (
  some (Sum.inr (q6.2)))
set_option maxHeartbeats 4000000 in
set_option maxRecDepth 100000 in
theorem f_M_closes_s5_ok {g : xG} {l : Launch} {d : Nat} {h : xH} {o : ((xH) ⊕ xH)} {R : Option xV} {H' : xH} (hD : 2 ≤ d) (hf : f_M_closes_s5 h = some o) (K1 : ∀ (h1 : xH), o = Sum.inl h1 → xEv g l d 165 5 [(0, xr 12 (some 0))] [] h1 R H') (K0 : ∀ (h1 : xH), o = Sum.inr (h1) → R = none ∧ H' = h1) : xEv g l d 165 5 [(0, xr 12 (some 0))] [] h R H' := by
  unfold f_M_closes_s5 at hf
  refine xs_aload_n d165_5 rfl ?_
  obtain ⟨q6, hc5, hf⟩ := lk_b hf
  refine xe_callv1 (as := []) (st := []) (h2 := q6.2) (d2 := d - 1) d165_6 ky165 ml185 st146 (by decide) cn146 rfl na146 (Nat.le_of_ble_eq_true rfl) (by omega) (f_M_see_ok (by omega) hc5) ?_
  refine xs_bipush (v := 93) d165_9 (by decide) ?_
  rcases lk_if hf with ⟨hc7, hf⟩ | ⟨hc7, hf⟩
  · refine xs_icmp_ne (tgt := 64) d165_11 (by decide) (fun _ => ?_) (fun hn => absurd hc7 hn)
    refine xs_aload_n d165_14 rfl ?_
    obtain ⟨r8, hc9, hf⟩ := lk_b hf
    refine xe_callv1 (as := []) (st := []) (h2 := q6.2) (d2 := d - 1) d165_15 ky165 ml215 st164 (by decide) cn164 rfl na164 (Nat.le_of_ble_eq_true rfl) (by omega) (f_M_isInside_0_ok (by omega) hc9) ?_
    rcases lk_if hf with ⟨hc10, hf⟩ | ⟨hc10, hf⟩
    · refine xs_if_eq (tgt := 64) d165_18 (by decide) (fun _ => ?_) (fun hn => absurd hc10 hn)
      obtain ⟨eR, eH⟩ := K0 _ (Option.some.inj hf).symm
      subst eR; subst eH
      exact xs_vret d165_64 rt165
    · refine xs_if_eq (tgt := 64) d165_18 (by decide) (fun hp => absurd hp hc10) (fun _ => ?_)
      refine xs_aload_n d165_21 rfl ?_
      refine xs_iconst (v := 1) d165_22 (by decide) ?_
      obtain ⟨h13, hc12, hf⟩ := lk_b hf
      refine xe_callv0 (as := [xi (1 : Int32)]) (st := []) (h2 := h13) (d2 := d - 1) d165_23 ky165 ml213 st158 (by decide) cn158 rfl na158 (Nat.le_of_ble_eq_true rfl) (by omega) (f_M_layDown_ok (by omega) hc12) ?_
      refine xs_aload_n d165_26 rfl ?_
      refine xs_dup d165_27 rfl ?_
      refine xe_geti d165_28 ky165 fl177 fk12_16 ?_
      refine xs_iconst (v := 1) d165_31 (by decide) ?_
      refine xs_isub d165_32 ?_
      obtain ⟨h14, eh14, hf⟩ := lk_let hf
      refine xe_puti d165_33 ky165 fl177 fk12_16 ft12_16 eh14 ?_
      refine xs_aload_n d165_36 rfl ?_
      refine xs_dup d165_37 rfl ?_
      refine xe_geti d165_38 ky165 fl174 fk12_13 ?_
      refine xs_iconst (v := 1) d165_41 (by decide) ?_
      refine xs_isub d165_42 ?_
      obtain ⟨h15, eh15, hf⟩ := lk_let hf
      refine xe_puti d165_43 ky165 fl174 fk12_13 ft12_13 eh15 ?_
      refine xs_aload_n d165_46 rfl ?_
      refine xs_dup d165_47 rfl ?_
      refine xe_geti d165_48 ky165 fl169 fk12_8 ?_
      refine xs_iconst (v := 1) d165_51 (by decide) ?_
      refine xs_iadd d165_52 ?_
      obtain ⟨h16, eh16, hf⟩ := lk_let hf
      refine xe_puti d165_53 ky165 fl169 fk12_8 ft12_8 eh16 ?_
      refine xs_aload_n d165_56 rfl ?_
      refine xs_iconst (v := 3) d165_57 (by decide) ?_
      obtain ⟨h19, hc18, hf⟩ := lk_b hf
      refine xe_callv0 (as := [xi (3 : Int32)]) (st := []) (h2 := h19) (d2 := d - 1) d165_58 ky165 ml213 st158 (by decide) cn158 rfl na158 (Nat.le_of_ble_eq_true rfl) (by omega) (f_M_layDown_ok (by omega) hc18) ?_
      refine xs_goto (tgt := 5) d165_61 (by decide) ?_
      exact K1 _ (Option.some.inj hf).symm
  · refine xs_icmp_ne (tgt := 64) d165_11 (by decide) (fun hp => absurd hp hc7) (fun _ => ?_)
    obtain ⟨eR, eH⟩ := K0 _ (Option.some.inj hf).symm
    subst eR; subst eH
    exact xs_vret d165_64 rt165
noncomputable def f_M_closes_l5 (h : xH) : Option xH :=
  whl (fun s => f_M_closes_s5 s) h
theorem f_M_closes_l5_ok {g : xG} {l : Launch} {d : Nat} {h : xH} {o : xH} {R : Option xV} {H' : xH} (hD : 2 ≤ d) (hf : f_M_closes_l5 h = some o) (K0 : ∀ (h1 : xH), o = h1 → R = none ∧ H' = h1) : xEv g l d 165 5 [(0, xr 12 (some 0))] [] h R H' := by
  obtain ⟨n, hn⟩ := whl_iff.mp hf
  clear hf
  induction n generalizing h with
  | zero => cases hn
  | succ n ih =>
    obtain ⟨o2, hs, hn⟩ := lk_b (show (f_M_closes_s5 h).bind (fun o => Sum.elim (itn _ n) some o) = some o from hn)
    exact f_M_closes_s5_ok hD hs (fun u0 e => ih (by rw [e] at hn; exact hn)) (fun u0 e => K0 u0 (by rw [e] at hn; exact (Option.some.inj hn).symm))
noncomputable def f_M_closes_e (h : xH) : Option xH :=
  (f_M_layDown (3 : Int32) h).bind fun h3 =>
  f_M_closes_l5 h3
set_option maxHeartbeats 4000000 in
set_option maxRecDepth 100000 in
theorem f_M_closes_e_ok {g : xG} {l : Launch} {d : Nat} {h : xH} {o : xH} {R : Option xV} {H' : xH} (hD : 2 ≤ d) (hf : f_M_closes_e h = some o) (K0 : ∀ (h1 : xH), o = h1 → R = none ∧ H' = h1) : xEv g l d 165 0 [(0, xr 12 (some 0))] [] h R H' := by
  unfold f_M_closes_e at hf
  refine xs_aload_n d165_0 rfl ?_
  refine xs_iconst (v := 3) d165_1 (by decide) ?_
  obtain ⟨h3, hc2, hf⟩ := lk_b hf
  refine xe_callv0 (as := [xi (3 : Int32)]) (st := []) (h2 := h3) (d2 := d - 1) d165_2 ky165 ml213 st158 (by decide) cn158 rfl na158 (Nat.le_of_ble_eq_true rfl) (by omega) (f_M_layDown_ok (by omega) hc2) ?_
  exact f_M_closes_l5_ok hD hf K0
noncomputable def f_M_closes (h : xH) : Option xH := f_M_closes_e h
theorem f_M_closes_ok {g : xG} {l : Launch} {d : Nat} {h : xH} {h1 : xH} (hD : 2 ≤ d) (hf : f_M_closes h = some h1) : xC g l d 165 [xr 12 (some 0)] h none h1 :=
  xC_of2 (by decide) mx165 (Nat.le_of_ble_eq_true rfl) (f_M_closes_e_ok hD hf (fun _ e => ⟨rfl, e⟩))
theorem d166_0 : decode (xcode 166) 0 = .ok (.aload_n 0, 1) := by decide +kernel
theorem d166_1 : decode (xcode 166) 1 = .ok (.iconst 0, 1) := by decide +kernel
theorem d166_2 : decode (xcode 166) 2 = .ok (.putfield 161, 3) := by decide +kernel
theorem d166_5 : decode (xcode 166) 5 = .ok (.aload_n 0, 1) := by decide +kernel
theorem d166_6 : decode (xcode 166) 6 = .ok (.iconst 0, 1) := by decide +kernel
theorem d166_7 : decode (xcode 166) 7 = .ok (.putfield 158, 3) := by decide +kernel
theorem d166_10 : decode (xcode 166) 10 = .ok (.iconst 1, 1) := by decide +kernel
theorem d166_11 : decode (xcode 166) 11 = .ok (.istore_n 1, 1) := by decide +kernel
theorem d166_12 : decode (xcode 166) 12 = .ok (.iload_n 1, 1) := by decide +kernel
theorem d166_13 : decode (xcode 166) 13 = .ok (.ifCond .eq 99, 3) := by decide +kernel
theorem d166_16 : decode (xcode 166) 16 = .ok (.aload_n 0, 1) := by decide +kernel
theorem d166_17 : decode (xcode 166) 17 = .ok (.invokevirtual 206, 3) := by decide +kernel
theorem d166_20 : decode (xcode 166) 20 = .ok (.ifCond .ne 5, 3) := by decide +kernel
theorem d166_23 : decode (xcode 166) 23 = .ok (.iconst 0, 1) := by decide +kernel
theorem d166_24 : decode (xcode 166) 24 = .ok (.ireturn, 1) := by decide +kernel
theorem d166_25 : decode (xcode 166) 25 = .ok (.aload_n 0, 1) := by decide +kernel
theorem d166_26 : decode (xcode 166) 26 = .ok (.invokevirtual 209, 3) := by decide +kernel
theorem d166_29 : decode (xcode 166) 29 = .ok (.aload_n 0, 1) := by decide +kernel
theorem d166_30 : decode (xcode 166) 30 = .ok (.ldc2_w 212, 3) := by decide +kernel
theorem d166_33 : decode (xcode 166) 33 = .ok (.invokevirtual 107, 3) := by decide +kernel
theorem d166_36 : decode (xcode 166) 36 = .ok (.ifCond .ne 13, 3) := by decide +kernel
theorem d166_39 : decode (xcode 166) 39 = .ok (.aload_n 0, 1) := by decide +kernel
theorem d166_40 : decode (xcode 166) 40 = .ok (.ldc2_w 214, 3) := by decide +kernel
theorem d166_43 : decode (xcode 166) 43 = .ok (.invokevirtual 107, 3) := by decide +kernel
theorem d166_46 : decode (xcode 166) 46 = .ok (.ifCond .eq 7, 3) := by decide +kernel
theorem d166_49 : decode (xcode 166) 49 = .ok (.iconst 1, 1) := by decide +kernel
theorem d166_50 : decode (xcode 166) 50 = .ok (.goto 4, 3) := by decide +kernel
theorem d166_53 : decode (xcode 166) 53 = .ok (.iconst 0, 1) := by decide +kernel
theorem d166_54 : decode (xcode 166) 54 = .ok (.istore_n 1, 1) := by decide +kernel
theorem d166_55 : decode (xcode 166) 55 = .ok (.iload_n 1, 1) := by decide +kernel
theorem d166_56 : decode (xcode 166) 56 = .ok (.ifCond .eq (-44), 3) := by decide +kernel
theorem d166_59 : decode (xcode 166) 59 = .ok (.aload_n 0, 1) := by decide +kernel
theorem d166_60 : decode (xcode 166) 60 = .ok (.ldc2_w 212, 3) := by decide +kernel
theorem d166_63 : decode (xcode 166) 63 = .ok (.invokevirtual 107, 3) := by decide +kernel
theorem d166_66 : decode (xcode 166) 66 = .ok (.ifCond .eq 8, 3) := by decide +kernel
theorem d166_69 : decode (xcode 166) 69 = .ok (.bipush 12, 2) := by decide +kernel
theorem d166_71 : decode (xcode 166) 71 = .ok (.goto 5, 3) := by decide +kernel
theorem d166_74 : decode (xcode 166) 74 = .ok (.bipush 13, 2) := by decide +kernel
theorem d166_76 : decode (xcode 166) 76 = .ok (.istore_n 2, 1) := by decide +kernel
theorem d166_77 : decode (xcode 166) 77 = .ok (.aload_n 0, 1) := by decide +kernel
theorem d166_78 : decode (xcode 166) 78 = .ok (.invokevirtual 111, 3) := by decide +kernel
theorem d166_81 : decode (xcode 166) 81 = .ok (.aload_n 0, 1) := by decide +kernel
theorem d166_82 : decode (xcode 166) 82 = .ok (.iload_n 2, 1) := by decide +kernel
theorem d166_83 : decode (xcode 166) 83 = .ok (.invokestatic 164, 3) := by decide +kernel
theorem d166_86 : decode (xcode 166) 86 = .ok (.invokevirtual 200, 3) := by decide +kernel
theorem d166_89 : decode (xcode 166) 89 = .ok (.aload_n 0, 1) := by decide +kernel
theorem d166_90 : decode (xcode 166) 90 = .ok (.getfield 29, 3) := by decide +kernel
theorem d166_93 : decode (xcode 166) 93 = .ok (.aload_n 0, 1) := by decide +kernel
theorem d166_94 : decode (xcode 166) 94 = .ok (.getfield 161, 3) := by decide +kernel
theorem d166_97 : decode (xcode 166) 97 = .ok (.iload_n 2, 1) := by decide +kernel
theorem d166_98 : decode (xcode 166) 98 = .ok (.iastore, 1) := by decide +kernel
theorem d166_99 : decode (xcode 166) 99 = .ok (.aload_n 0, 1) := by decide +kernel
theorem d166_100 : decode (xcode 166) 100 = .ok (.dup, 1) := by decide +kernel
theorem d166_101 : decode (xcode 166) 101 = .ok (.getfield 161, 3) := by decide +kernel
theorem d166_104 : decode (xcode 166) 104 = .ok (.iconst 1, 1) := by decide +kernel
theorem d166_105 : decode (xcode 166) 105 = .ok (.iadd, 1) := by decide +kernel
theorem d166_106 : decode (xcode 166) 106 = .ok (.putfield 161, 3) := by decide +kernel
theorem d166_109 : decode (xcode 166) 109 = .ok (.goto (-97), 3) := by decide +kernel
theorem d166_112 : decode (xcode 166) 112 = .ok (.aload_n 0, 1) := by decide +kernel
theorem d166_113 : decode (xcode 166) 113 = .ok (.invokevirtual 203, 3) := by decide +kernel
theorem d166_116 : decode (xcode 166) 116 = .ok (.ifCond .eq 18, 3) := by decide +kernel
theorem d166_119 : decode (xcode 166) 119 = .ok (.aload_n 0, 1) := by decide +kernel
theorem d166_120 : decode (xcode 166) 120 = .ok (.invokevirtual 99, 3) := by decide +kernel
theorem d166_123 : decode (xcode 166) 123 = .ok (.pop, 1) := by decide +kernel
theorem d166_124 : decode (xcode 166) 124 = .ok (.aload_n 0, 1) := by decide +kernel
theorem d166_125 : decode (xcode 166) 125 = .ok (.iconst 0, 1) := by decide +kernel
theorem d166_126 : decode (xcode 166) 126 = .ok (.aload_n 0, 1) := by decide +kernel
theorem d166_127 : decode (xcode 166) 127 = .ok (.getfield 96, 3) := by decide +kernel
theorem d166_130 : decode (xcode 166) 130 = .ok (.invokevirtual 117, 3) := by decide +kernel
theorem d166_133 : decode (xcode 166) 133 = .ok (.ireturn, 1) := by decide +kernel
theorem d166_134 : decode (xcode 166) 134 = .ok (.aload_n 0, 1) := by decide +kernel
theorem d166_135 : decode (xcode 166) 135 = .ok (.iconst 1, 1) := by decide +kernel
theorem d166_136 : decode (xcode 166) 136 = .ok (.invokevirtual 200, 3) := by decide +kernel
theorem d166_139 : decode (xcode 166) 139 = .ok (.iconst 1, 1) := by decide +kernel
theorem d166_140 : decode (xcode 166) 140 = .ok (.ireturn, 1) := by decide +kernel
noncomputable def f_M_tested_b112 (h : xH) : Option (Int32 × xH) :=
  (f_M_isInside_0 h).bind fun r4 =>
  if r4 = (0 : Int32) then (
  (f_M_layDown (1 : Int32) h).bind fun h9 =>
  some (((1 : Int32), h9))) else (
  (f_M_see h).bind fun q12 =>
  (f_M_fails (0 : Int32) (q12.2.1 12 8 0) q12.2).bind fun q15 =>
  if q15.1 = 0 ∨ q15.1 = 1 then (
  some ((q15.1, q15.2))) else none)
set_option maxHeartbeats 4000000 in
set_option maxRecDepth 100000 in
theorem f_M_tested_b112_ok {g : xG} {l : Launch} {d : Nat} {h : xH} {o : (Int32 × xH)} {R : Option xV} {H' : xH} (hD : 8 ≤ d) (hf : f_M_tested_b112 h = some o) (K0 : ∀ (a : Int32) (h1 : xH), o = (a, h1) → R = some (xi a) ∧ H' = h1) : xEv g l d 166 112 [(0, xr 12 (some 0))] [] h R H' := by
  unfold f_M_tested_b112 at hf
  refine xs_aload_n d166_112 rfl ?_
  obtain ⟨r4, hc5, hf⟩ := lk_b hf
  refine xe_callv1 (as := []) (st := []) (h2 := h) (d2 := d - 1) d166_113 ky166 ml215 st164 (by decide) cn164 rfl na164 (Nat.le_of_ble_eq_true rfl) (by omega) (f_M_isInside_0_ok (by omega) hc5) ?_
  rcases lk_if hf with ⟨hc6, hf⟩ | ⟨hc6, hf⟩
  · refine xs_if_eq (tgt := 134) d166_116 (by decide) (fun _ => ?_) (fun hn => absurd hc6 hn)
    refine xs_aload_n d166_134 rfl ?_
    refine xs_iconst (v := 1) d166_135 (by decide) ?_
    obtain ⟨h9, hc8, hf⟩ := lk_b hf
    refine xe_callv0 (as := [xi (1 : Int32)]) (st := []) (h2 := h9) (d2 := d - 1) d166_136 ky166 ml213 st158 (by decide) cn158 rfl na158 (Nat.le_of_ble_eq_true rfl) (by omega) (f_M_layDown_ok (by omega) hc8) ?_
    refine xs_iconst (v := 1) d166_139 (by decide) ?_
    obtain ⟨eR, eH⟩ := K0 _ _ (Option.some.inj hf).symm
    subst eR; subst eH
    exact xe_zret d166_140 (Or.inr rfl) rt166
  · refine xs_if_eq (tgt := 134) d166_116 (by decide) (fun hp => absurd hp hc6) (fun _ => ?_)
    refine xs_aload_n d166_119 rfl ?_
    obtain ⟨q12, hc11, hf⟩ := lk_b hf
    refine xe_callv1 (as := []) (st := []) (h2 := q12.2) (d2 := d - 1) d166_120 ky166 ml185 st146 (by decide) cn146 rfl na146 (Nat.le_of_ble_eq_true rfl) (by omega) (f_M_see_ok (by omega) hc11) ?_
    refine xs_pop d166_123 rfl ?_
    refine xs_aload_n d166_124 rfl ?_
    refine xs_iconst (v := 0) d166_125 (by decide) ?_
    refine xs_aload_n d166_126 rfl ?_
    refine xe_geti d166_127 ky166 fl169 fk12_8 ?_
    obtain ⟨q15, hc14, hf⟩ := lk_b hf
    refine xe_callv1 (as := [xi (0 : Int32), xi (q12.2.1 12 8 0)]) (st := []) (h2 := q15.2) (d2 := d - 1) d166_130 ky166 ml189 st145 (by decide) cn145 rfl na145 (Nat.le_of_ble_eq_true rfl) (by omega) (f_M_fails_ok (by omega) hc14) ?_
    obtain ⟨hz16, hf⟩ := lk_g hf
    obtain ⟨eR, eH⟩ := K0 _ _ (Option.some.inj hf).symm
    subst eR; subst eH
    exact xe_zret d166_133 hz16 rt166
noncomputable def f_M_tested_b76 (v1 : Int32) (t0 : Int32) (h : xH) : Option ((Int32 × xH) ⊕ (Int32 × xH)) :=
  (f_M_passWord h).bind fun h39 =>
  (f_M_strength t0 h39).bind fun r40 =>
  (f_M_layDown r40 h39).bind fun h44 =>
  if xib (h44.1 12 16 0) 400 then (
  xlet (xsA h44 53 0 (upd (h44.2.2.2.1 53 0) (h44.1 12 16 0).toNatClampNeg t0)) fun h46 =>
  xlet (xsI h46 12 16 0 ((h46.1 12 16 0) + (1 : Int32))) fun h47 =>
  some (Sum.inl (v1, h47))) else none
set_option maxHeartbeats 4000000 in
set_option maxRecDepth 100000 in
theorem f_M_tested_b76_ok {g : xG} {l : Launch} {d : Nat} {v1 : Int32} {t0 : Int32} {h : xH} {o : ((Int32 × xH) ⊕ (Int32 × xH))} {R : Option xV} {H' : xH} (hD : 8 ≤ d) (hf : f_M_tested_b76 v1 t0 h = some o) (K1 : ∀ (w1 : Int32) (h1 : xH), o = Sum.inl (w1, h1) → xEv g l d 166 12 [(0, xr 12 (some 0)), (1, xi w1)] [] h1 R H') (K0 : ∀ (a : Int32) (h1 : xH), o = Sum.inr ((a, h1)) → R = some (xi a) ∧ H' = h1) : xEv g l d 166 76 [(0, xr 12 (some 0)), (1, xi v1)] [xi t0] h R H' := by
  unfold f_M_tested_b76 at hf
  refine xe_istore_n (v := t0) (ls2 := [(0, xr 12 (some 0)), (1, xi v1), (2, xi t0)]) d166_76 mx166 (by decide) rfl rfl ?_
  refine xs_aload_n d166_77 rfl ?_
  obtain ⟨h39, hc38, hf⟩ := lk_b hf
  refine xe_callv0 (as := []) (st := []) (h2 := h39) (d2 := d - 1) d166_78 ky166 ml192 st150 (by decide) cn150 rfl na150 (Nat.le_of_ble_eq_true rfl) (by omega) (f_M_passWord_ok (by omega) hc38) ?_
  refine xs_aload_n d166_81 rfl ?_
  refine xs_iload_n d166_82 rfl ?_
  obtain ⟨r40, hc41, hf⟩ := lk_b hf
  refine xe_calls1 (as := [xi t0]) (st := [xr 12 (some 0)]) (h2 := h39) (d2 := d - 1) d166_83 ky166 ml214 st157 rfl na157 (Nat.le_of_ble_eq_true rfl) (by omega) (f_M_strength_ok (by omega) hc41) ?_
  obtain ⟨h44, hc43, hf⟩ := lk_b hf
  refine xe_callv0 (as := [xi r40]) (st := []) (h2 := h44) (d2 := d - 1) d166_86 ky166 ml213 st158 (by decide) cn158 rfl na158 (Nat.le_of_ble_eq_true rfl) (by omega) (f_M_layDown_ok (by omega) hc43) ?_
  refine xs_aload_n d166_89 rfl ?_
  refine xe_getc (j := 0) d166_90 ky166 fl176 fk12_15 rfl ?_
  refine xs_aload_n d166_93 rfl ?_
  refine xe_geti d166_94 ky166 fl177 fk12_16 ?_
  refine xs_iload_n d166_97 rfl ?_
  obtain ⟨hin45, hf⟩ := lk_g hf
  obtain ⟨h46, eh46, hf⟩ := lk_let hf
  refine xe_iast d166_98 (by decide) ak53 hin45  eh46 ?_
  refine xs_aload_n d166_99 rfl ?_
  refine xs_dup d166_100 rfl ?_
  refine xe_geti d166_101 ky166 fl177 fk12_16 ?_
  refine xs_iconst (v := 1) d166_104 (by decide) ?_
  refine xs_iadd d166_105 ?_
  obtain ⟨h47, eh47, hf⟩ := lk_let hf
  refine xe_puti d166_106 ky166 fl177 fk12_16 ft12_16 eh47 ?_
  refine xs_goto (tgt := 12) d166_109 (by decide) ?_
  refine xs_pick [0, 1] rfl ?_
  exact K1 _ _ (Option.some.inj hf).symm
noncomputable def f_M_tested_b54 (t0 : Int32) (h : xH) : Option ((Int32 × xH) ⊕ (Int32 × xH)) :=
  if t0 = (0 : Int32) then (
  some (Sum.inl (t0, h))) else (
  (f_M_isWord (6385252 : Int64) h).bind fun q35 =>
  if q35.1 = (0 : Int32) then (
  f_M_tested_b76 t0 (13 : Int32) q35.2) else (
  f_M_tested_b76 t0 (12 : Int32) q35.2))
set_option maxHeartbeats 4000000 in
set_option maxRecDepth 100000 in
theorem f_M_tested_b54_ok {g : xG} {l : Launch} {d : Nat} {t0 : Int32} {h : xH} {o : ((Int32 × xH) ⊕ (Int32 × xH))} {R : Option xV} {H' : xH} (hD : 8 ≤ d) (hf : f_M_tested_b54 t0 h = some o) (K1 : ∀ (w1 : Int32) (h1 : xH), o = Sum.inl (w1, h1) → xEv g l d 166 12 [(0, xr 12 (some 0)), (1, xi w1)] [] h1 R H') (K0 : ∀ (a : Int32) (h1 : xH), o = Sum.inr ((a, h1)) → R = some (xi a) ∧ H' = h1) : xEv g l d 166 54 [(0, xr 12 (some 0))] [xi t0] h R H' := by
  unfold f_M_tested_b54 at hf
  refine xe_istore_n (v := t0) (ls2 := [(0, xr 12 (some 0)), (1, xi t0)]) d166_54 mx166 (by decide) rfl rfl ?_
  refine xs_iload_n d166_55 rfl ?_
  rcases lk_if hf with ⟨hc32, hf⟩ | ⟨hc32, hf⟩
  · refine xs_if_eq (tgt := 12) d166_56 (by decide) (fun _ => ?_) (fun hn => absurd hc32 hn)
    exact K1 _ _ (Option.some.inj hf).symm
  · refine xs_if_eq (tgt := 12) d166_56 (by decide) (fun hp => absurd hp hc32) (fun _ => ?_)
    refine xs_aload_n d166_59 rfl ?_
    refine xs_ldc2 (v := 6385252) d166_60 cl12_212 ?_
    obtain ⟨q35, hc34, hf⟩ := lk_b hf
    refine xe_callv1 (as := [xl (6385252 : Int64)]) (st := []) (h2 := q35.2) (d2 := d - 1) d166_63 ky166 ml187 st149 (by decide) cn149 rfl na149 (Nat.le_of_ble_eq_true rfl) (by omega) (f_M_isWord_ok (by omega) hc34) ?_
    rcases lk_if hf with ⟨hc36, hf⟩ | ⟨hc36, hf⟩
    · refine xs_if_eq (tgt := 74) d166_66 (by decide) (fun _ => ?_) (fun hn => absurd hc36 hn)
      refine xs_bipush (v := 13) d166_74 (by decide) ?_
      exact f_M_tested_b76_ok hD hf K1 K0
    · refine xs_if_eq (tgt := 74) d166_66 (by decide) (fun hp => absurd hp hc36) (fun _ => ?_)
      refine xs_bipush (v := 12) d166_69 (by decide) ?_
      refine xs_goto (tgt := 76) d166_71 (by decide) ?_
      exact f_M_tested_b76_ok hD hf K1 K0
noncomputable def f_M_tested_b49 (h : xH) : Option ((Int32 × xH) ⊕ (Int32 × xH)) :=
  f_M_tested_b54 (1 : Int32) h
set_option maxHeartbeats 4000000 in
set_option maxRecDepth 100000 in
theorem f_M_tested_b49_ok {g : xG} {l : Launch} {d : Nat} {h : xH} {o : ((Int32 × xH) ⊕ (Int32 × xH))} {R : Option xV} {H' : xH} (hD : 8 ≤ d) (hf : f_M_tested_b49 h = some o) (K1 : ∀ (w1 : Int32) (h1 : xH), o = Sum.inl (w1, h1) → xEv g l d 166 12 [(0, xr 12 (some 0)), (1, xi w1)] [] h1 R H') (K0 : ∀ (a : Int32) (h1 : xH), o = Sum.inr ((a, h1)) → R = some (xi a) ∧ H' = h1) : xEv g l d 166 49 [(0, xr 12 (some 0))] [] h R H' := by
  unfold f_M_tested_b49 at hf
  refine xs_iconst (v := 1) d166_49 (by decide) ?_
  refine xs_goto (tgt := 54) d166_50 (by decide) ?_
  exact f_M_tested_b54_ok hD hf K1 K0
noncomputable def f_M_tested_s12 (v1 : Int32) (h : xH) : Option ((Int32 × xH) ⊕ (Int32 × xH)) :=
  if v1 = (0 : Int32) then (
  xup (f_M_tested_b112 h)) else (
  (f_M_fact h).bind fun q19 =>
  if q19.1 = (0 : Int32) then (
  some (Sum.inr (((0 : Int32), q19.2)))) else (
  (f_M_closes q19.2).bind fun h23 =>
  (f_M_isWord (6385252 : Int64) h23).bind fun q26 =>
  if q26.1 = (0 : Int32) then (
  (f_M_isWord (28530 : Int64) q26.2).bind fun q30 =>
  if q30.1 = (0 : Int32) then (
  f_M_tested_b54 (0 : Int32) q30.2) else (
  f_M_tested_b49 q30.2)) else (
  f_M_tested_b49 q26.2)))
set_option maxHeartbeats 4000000 in
set_option maxRecDepth 100000 in
theorem f_M_tested_s12_ok {g : xG} {l : Launch} {d : Nat} {v1 : Int32} {h : xH} {o : ((Int32 × xH) ⊕ (Int32 × xH))} {R : Option xV} {H' : xH} (hD : 8 ≤ d) (hf : f_M_tested_s12 v1 h = some o) (K1 : ∀ (w1 : Int32) (h1 : xH), o = Sum.inl (w1, h1) → xEv g l d 166 12 [(0, xr 12 (some 0)), (1, xi w1)] [] h1 R H') (K0 : ∀ (a : Int32) (h1 : xH), o = Sum.inr ((a, h1)) → R = some (xi a) ∧ H' = h1) : xEv g l d 166 12 [(0, xr 12 (some 0)), (1, xi v1)] [] h R H' := by
  unfold f_M_tested_s12 at hf
  refine xs_iload_n d166_12 rfl ?_
  rcases lk_if hf with ⟨hc3, hf⟩ | ⟨hc3, hf⟩
  · refine xs_if_eq (tgt := 112) d166_13 (by decide) (fun _ => ?_) (fun hn => absurd hc3 hn)
    refine xs_pick [0] rfl ?_
    obtain ⟨x0, hf, ex0⟩ := lk_up hf
    exact f_M_tested_b112_ok hD hf (fun u0 u1 e => K0 u0 u1 (ex0.trans (congrArg Sum.inr e)))
  · refine xs_if_eq (tgt := 112) d166_13 (by decide) (fun hp => absurd hp hc3) (fun _ => ?_)
    refine xs_aload_n d166_16 rfl ?_
    obtain ⟨q19, hc18, hf⟩ := lk_b hf
    refine xe_callv1 (as := []) (st := []) (h2 := q19.2) (d2 := d - 1) d166_17 ky166 ml209 st163 (by decide) cn163 rfl na163 (Nat.le_of_ble_eq_true rfl) (by omega) (f_M_fact_ok (by omega) hc18) ?_
    rcases lk_if hf with ⟨hc20, hf⟩ | ⟨hc20, hf⟩
    · refine xs_if_ne (tgt := 25) d166_20 (by decide) (fun _ => ?_) (fun hn => absurd hc20 hn)
      refine xs_iconst (v := 0) d166_23 (by decide) ?_
      obtain ⟨eR, eH⟩ := K0 _ _ (Option.some.inj hf).symm
      subst eR; subst eH
      exact xe_zret d166_24 (Or.inl rfl) rt166
    · refine xs_if_ne (tgt := 25) d166_20 (by decide) (fun hp => absurd hp hc20) (fun _ => ?_)
      refine xs_aload_n d166_25 rfl ?_
      obtain ⟨h23, hc22, hf⟩ := lk_b hf
      refine xe_callv0 (as := []) (st := []) (h2 := h23) (d2 := d - 1) d166_26 ky166 ml212 st165 (by decide) cn165 rfl na165 (Nat.le_of_ble_eq_true rfl) (by omega) (f_M_closes_ok (by omega) hc22) ?_
      refine xs_aload_n d166_29 rfl ?_
      refine xs_ldc2 (v := 6385252) d166_30 cl12_212 ?_
      obtain ⟨q26, hc25, hf⟩ := lk_b hf
      refine xe_callv1 (as := [xl (6385252 : Int64)]) (st := []) (h2 := q26.2) (d2 := d - 1) d166_33 ky166 ml187 st149 (by decide) cn149 rfl na149 (Nat.le_of_ble_eq_true rfl) (by omega) (f_M_isWord_ok (by omega) hc25) ?_
      rcases lk_if hf with ⟨hc27, hf⟩ | ⟨hc27, hf⟩
      · refine xs_if_ne (tgt := 49) d166_36 (by decide) (fun _ => ?_) (fun hn => absurd hc27 hn)
        refine xs_aload_n d166_39 rfl ?_
        refine xs_ldc2 (v := 28530) d166_40 cl12_214 ?_
        obtain ⟨q30, hc29, hf⟩ := lk_b hf
        refine xe_callv1 (as := [xl (28530 : Int64)]) (st := []) (h2 := q30.2) (d2 := d - 1) d166_43 ky166 ml187 st149 (by decide) cn149 rfl na149 (Nat.le_of_ble_eq_true rfl) (by omega) (f_M_isWord_ok (by omega) hc29) ?_
        rcases lk_if hf with ⟨hc31, hf⟩ | ⟨hc31, hf⟩
        · refine xs_if_eq (tgt := 53) d166_46 (by decide) (fun _ => ?_) (fun hn => absurd hc31 hn)
          refine xs_iconst (v := 0) d166_53 (by decide) ?_
          refine xs_pick [0] rfl ?_
          exact f_M_tested_b54_ok hD hf K1 K0
        · refine xs_if_eq (tgt := 53) d166_46 (by decide) (fun hp => absurd hp hc31) (fun _ => ?_)
          refine xs_pick [0] rfl ?_
          exact f_M_tested_b49_ok hD hf K1 K0
      · refine xs_if_ne (tgt := 49) d166_36 (by decide) (fun hp => absurd hp hc27) (fun _ => ?_)
        refine xs_pick [0] rfl ?_
        exact f_M_tested_b49_ok hD hf K1 K0
noncomputable def f_M_tested_l12 (v1 : Int32) (h : xH) : Option (Int32 × xH) :=
  whl (fun s => f_M_tested_s12 s.1 s.2) (v1, h)
theorem f_M_tested_l12_ok {g : xG} {l : Launch} {d : Nat} {v1 : Int32} {h : xH} {o : (Int32 × xH)} {R : Option xV} {H' : xH} (hD : 8 ≤ d) (hf : f_M_tested_l12 v1 h = some o) (K0 : ∀ (a : Int32) (h1 : xH), o = (a, h1) → R = some (xi a) ∧ H' = h1) : xEv g l d 166 12 [(0, xr 12 (some 0)), (1, xi v1)] [] h R H' := by
  obtain ⟨n, hn⟩ := whl_iff.mp hf
  clear hf
  induction n generalizing v1 h with
  | zero => cases hn
  | succ n ih =>
    obtain ⟨o2, hs, hn⟩ := lk_b (show (f_M_tested_s12 v1 h).bind (fun o => Sum.elim (itn _ n) some o) = some o from hn)
    exact f_M_tested_s12_ok hD hs (fun u0 u1 e => ih (by rw [e] at hn; exact hn)) (fun u0 u1 e => K0 u0 u1 (by rw [e] at hn; exact (Option.some.inj hn).symm))
noncomputable def f_M_tested_e (h : xH) : Option (Int32 × xH) :=
  xlet (xsI h 12 16 0 (0 : Int32)) fun h1 =>
  xlet (xsI h1 12 13 0 (0 : Int32)) fun h2 =>
  f_M_tested_l12 (1 : Int32) h2
set_option maxHeartbeats 4000000 in
set_option maxRecDepth 100000 in
theorem f_M_tested_e_ok {g : xG} {l : Launch} {d : Nat} {h : xH} {o : (Int32 × xH)} {R : Option xV} {H' : xH} (hD : 8 ≤ d) (hf : f_M_tested_e h = some o) (K0 : ∀ (a : Int32) (h1 : xH), o = (a, h1) → R = some (xi a) ∧ H' = h1) : xEv g l d 166 0 [(0, xr 12 (some 0))] [] h R H' := by
  unfold f_M_tested_e at hf
  refine xs_aload_n d166_0 rfl ?_
  refine xs_iconst (v := 0) d166_1 (by decide) ?_
  obtain ⟨h1, eh1, hf⟩ := lk_let hf
  refine xe_puti d166_2 ky166 fl177 fk12_16 ft12_16 eh1 ?_
  refine xs_aload_n d166_5 rfl ?_
  refine xs_iconst (v := 0) d166_6 (by decide) ?_
  obtain ⟨h2, eh2, hf⟩ := lk_let hf
  refine xe_puti d166_7 ky166 fl174 fk12_13 ft12_13 eh2 ?_
  refine xs_iconst (v := 1) d166_10 (by decide) ?_
  refine xe_istore_n (v := (1 : Int32)) (ls2 := [(0, xr 12 (some 0)), (1, xi (1 : Int32))]) d166_11 mx166 (by decide) rfl rfl ?_
  exact f_M_tested_l12_ok hD hf K0
noncomputable def f_M_tested (h : xH) : Option (Int32 × xH) := f_M_tested_e h
theorem f_M_tested_ok {g : xG} {l : Launch} {d : Nat} {h : xH} {r : Int32} {h1 : xH} (hD : 8 ≤ d) (hf : f_M_tested h = some (r, h1)) : xC g l d 166 [xr 12 (some 0)] h (some (xi r)) h1 :=
  xC_of2 (by decide) mx166 (Nat.le_of_ble_eq_true rfl) (f_M_tested_e_ok hD hf (fun _ _ e => by cases e; exact ⟨rfl, rfl⟩))
