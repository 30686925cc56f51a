theorem d15_0 : decode (xcode 15) 0 = .ok (.aload_n 0, 1) := by decide +kernel
theorem d15_1 : decode (xcode 15) 1 = .ok (.iload_n 1, 1) := by decide +kernel
theorem d15_2 : decode (xcode 15) 2 = .ok (.invokevirtual 69, 3) := by decide +kernel
theorem d15_5 : decode (xcode 15) 5 = .ok (.iconst 0, 1) := by decide +kernel
theorem d15_6 : decode (xcode 15) 6 = .ok (.istore_n 2, 1) := by decide +kernel
theorem d15_7 : decode (xcode 15) 7 = .ok (.iload_n 2, 1) := by decide +kernel
theorem d15_8 : decode (xcode 15) 8 = .ok (.sipush 400, 3) := by decide +kernel
theorem d15_11 : decode (xcode 15) 11 = .ok (.if_icmp .ge 52, 3) := by decide +kernel
theorem d15_14 : decode (xcode 15) 14 = .ok (.aload_n 0, 1) := by decide +kernel
theorem d15_15 : decode (xcode 15) 15 = .ok (.getfield 9, 3) := by decide +kernel
theorem d15_18 : decode (xcode 15) 18 = .ok (.invokevirtual 60, 3) := by decide +kernel
theorem d15_21 : decode (xcode 15) 21 = .ok (.ifCond .eq 42, 3) := by decide +kernel
theorem d15_24 : decode (xcode 15) 24 = .ok (.aload_n 0, 1) := by decide +kernel
theorem d15_25 : decode (xcode 15) 25 = .ok (.getfield 9, 3) := by decide +kernel
theorem d15_28 : decode (xcode 15) 28 = .ok (.bipush 17, 2) := by decide +kernel
theorem d15_30 : decode (xcode 15) 30 = .ok (.invokevirtual 46, 3) := by decide +kernel
theorem d15_33 : decode (xcode 15) 33 = .ok (.ifCond .eq 30, 3) := by decide +kernel
theorem d15_36 : decode (xcode 15) 36 = .ok (.aload_n 0, 1) := by decide +kernel
theorem d15_37 : decode (xcode 15) 37 = .ok (.getfield 9, 3) := by decide +kernel
theorem d15_40 : decode (xcode 15) 40 = .ok (.invokevirtual 54, 3) := by decide +kernel
theorem d15_43 : decode (xcode 15) 43 = .ok (.aload_n 0, 1) := by decide +kernel
theorem d15_44 : decode (xcode 15) 44 = .ok (.iload_n 1, 1) := by decide +kernel
theorem d15_45 : decode (xcode 15) 45 = .ok (.invokevirtual 69, 3) := by decide +kernel
theorem d15_48 : decode (xcode 15) 48 = .ok (.aload_n 0, 1) := by decide +kernel
theorem d15_49 : decode (xcode 15) 49 = .ok (.getfield 15, 3) := by decide +kernel
theorem d15_52 : decode (xcode 15) 52 = .ok (.bipush 23, 2) := by decide +kernel
theorem d15_54 : decode (xcode 15) 54 = .ok (.invokevirtual 66, 3) := by decide +kernel
theorem d15_57 : decode (xcode 15) 57 = .ok (.iinc 2 1, 3) := by decide +kernel
theorem d15_60 : decode (xcode 15) 60 = .ok (.goto (-53), 3) := by decide +kernel
theorem d15_63 : decode (xcode 15) 63 = .ok (.return_, 1) := by decide +kernel
noncomputable def f_RuleReader_readTest_s7 (cb_readPart : Int32 → xH → Option xH) (v1 : Int32) (v2 : Int32) (h : xH) : Option ((Int32 × xH) ⊕ xH) :=
  if (400 : Int32) ≤ v2 then (
  some (Sum.inr (h))) else (
  (f_Tape_isWell h).bind fun r5 =>
  if r5 = (0 : Int32) then (
  some (Sum.inr (h))) else (
  (f_Tape_isWord (17 : Int32) h).bind fun r8 =>
  if r8 = (0 : Int32) then (
  some (Sum.inr (h))) else (
  (f_Tape_goOn h).bind fun h13 =>
  (cb_readPart v1 h13).bind fun h16 =>
  (h16.2.2.1 3 1 0).bind fun i917 =>
  (f_Rule_add i917 (23 : Int32) h16).bind fun h20 =>
  xlet (v2 + (1 : Int32)) fun v2_21 =>
  some (Sum.inl (v2_21, h20)))))
set_option maxHeartbeats 4000000 in
set_option maxRecDepth 100000 in
theorem f_RuleReader_readTest_s7_ok {g : xG} {l : Launch} {d : Nat} {cb_readPart : Int32 → xH → Option xH} {v1 : Int32} {v2 : Int32} {h : xH} {o : ((Int32 × xH) ⊕ xH)} {R : Option xV} {H' : xH} (hD : 1 ≤ d) (kb_readPart : ∀ (a : Int32) (h h1 : xH), cb_readPart a h = some h1 → xC g l (d - 1) 16 [xr 3 (some 0), xi a] h none h1) (hf : f_RuleReader_readTest_s7 cb_readPart v1 v2 h = some o) (K1 : ∀ (w2 : Int32) (h1 : xH), o = Sum.inl (w2, h1) → xEv g l d 15 7 [(0, xr 3 (some 0)), (1, xi v1), (2, xi w2)] [] h1 R H') (K0 : ∀ (h1 : xH), o = Sum.inr (h1) → R = none ∧ H' = h1) : xEv g l d 15 7 [(0, xr 3 (some 0)), (1, xi v1), (2, xi v2)] [] h R H' := by
  unfold f_RuleReader_readTest_s7 at hf
  refine xs_iload_n d15_7 rfl ?_
  refine xs_sipush (v := 400) d15_8 (by decide) ?_
  rcases lk_if hf with ⟨hc4, hf⟩ | ⟨hc4, hf⟩
  · refine xs_icmp_ge (tgt := 63) d15_11 (by decide) (fun _ => ?_) (fun hn => absurd hc4 hn)
    obtain ⟨eR, eH⟩ := K0 _ (Option.some.inj hf).symm
    subst eR; subst eH
    exact xs_vret d15_63 rt15
  · refine xs_icmp_ge (tgt := 63) d15_11 (by decide) (fun hp => absurd hp hc4) (fun _ => ?_)
    refine xs_aload_n d15_14 rfl ?_
    refine xe_getc (j := 0) d15_15 ky15 fl58 fk3_0 rfl ?_
    obtain ⟨r5, hc6, hf⟩ := lk_b hf
    refine xe_callv1 (as := []) (st := []) (h2 := h) (d2 := d - 1) d15_18 ky15 ml47 st69 (by decide) cn69 rfl na69 (Nat.le_of_ble_eq_true rfl) (by omega) (f_Tape_isWell_ok (by omega) hc6) ?_
    rcases lk_if hf with ⟨hc7, hf⟩ | ⟨hc7, hf⟩
    · refine xs_if_eq (tgt := 63) d15_21 (by decide) (fun _ => ?_) (fun hn => absurd hc7 hn)
      obtain ⟨eR, eH⟩ := K0 _ (Option.some.inj hf).symm
      subst eR; subst eH
      exact xs_vret d15_63 rt15
    · refine xs_if_eq (tgt := 63) d15_21 (by decide) (fun hp => absurd hp hc7) (fun _ => ?_)
      refine xs_aload_n d15_24 rfl ?_
      refine xe_getc (j := 0) d15_25 ky15 fl58 fk3_0 rfl ?_
      refine xs_bipush (v := 17) d15_28 (by decide) ?_
      obtain ⟨r8, hc9, hf⟩ := lk_b hf
      refine xe_callv1 (as := [xi (17 : Int32)]) (st := []) (h2 := h) (d2 := d - 1) d15_30 ky15 ml40 st72 (by decide) cn72 rfl na72 (Nat.le_of_ble_eq_true rfl) (by omega) (f_Tape_isWord_ok (by omega) hc9) ?_
      rcases lk_if hf with ⟨hc10, hf⟩ | ⟨hc10, hf⟩
      · refine xs_if_eq (tgt := 63) d15_33 (by decide) (fun _ => ?_) (fun hn => absurd hc10 hn)
        obtain ⟨eR, eH⟩ := K0 _ (Option.some.inj hf).symm
        subst eR; subst eH
        exact xs_vret d15_63 rt15
      · refine xs_if_eq (tgt := 63) d15_33 (by decide) (fun hp => absurd hp hc10) (fun _ => ?_)
        refine xs_aload_n d15_36 rfl ?_
        refine xe_getc (j := 0) d15_37 ky15 fl58 fk3_0 rfl ?_
        obtain ⟨h13, hc12, hf⟩ := lk_b hf
        refine xe_callv0 (as := []) (st := []) (h2 := h13) (d2 := d - 1) d15_40 ky15 ml42 st68 (by decide) cn68 rfl na68 (Nat.le_of_ble_eq_true rfl) (by omega) (f_Tape_goOn_ok (by omega) hc12) ?_
        refine xs_aload_n d15_43 rfl ?_
        refine xs_iload_n d15_44 rfl ?_
        obtain ⟨h16, hc15, hf⟩ := lk_b hf
        refine xe_callv0 (as := [xi v1]) (st := []) (h2 := h16) (d2 := d - 1) d15_45 ky15 ml50 st16 (by decide) cn16 rfl na16 (Nat.le_of_ble_eq_true rfl) (by omega) (kb_readPart _ _ _ hc15) ?_
        refine xs_aload_n d15_48 rfl ?_
        refine xe_getd d15_49 ky15 fl59 fk3_1 ?_
        refine xs_bipush (v := 23) d15_52 (by decide) ?_
        obtain ⟨i917, ei917, hf⟩ := lk_b hf
        rw [ei917]
        obtain ⟨h20, hc19, hf⟩ := lk_b hf
        refine xe_callv0 (as := [xi (23 : Int32)]) (st := []) (h2 := h20) (d2 := d - 1) d15_54 ky15 ml46 st9 (by decide) cn9 rfl na9 (Nat.le_of_ble_eq_true rfl) (by omega) (f_Rule_add_ok (by omega) hc19) ?_
        obtain ⟨v2_21, ev2_21, hf⟩ := lk_let hf
        refine xe_iinc (v := v2_21) (b := 1) (ls2 := [(0, xr 3 (some 0)), (1, xi v1), (2, xi v2_21)]) d15_57 mx15 (by decide) rfl (by decide) ev2_21 rfl ?_
        refine xs_goto (tgt := 7) d15_60 (by decide) ?_
        exact K1 _ _ (Option.some.inj hf).symm
noncomputable def f_RuleReader_readTest_l7 (cb_readPart : Int32 → xH → Option xH) (v1 : Int32) (v2 : Int32) (h : xH) : Option xH :=
  whl (fun s => f_RuleReader_readTest_s7 cb_readPart v1 s.1 s.2) (v2, h)
theorem f_RuleReader_readTest_l7_ok {g : xG} {l : Launch} {d : Nat} {cb_readPart : Int32 → xH → Option xH} {v1 : Int32} {v2 : Int32} {h : xH} {o : xH} {R : Option xV} {H' : xH} (hD : 1 ≤ d) (kb_readPart : ∀ (a : Int32) (h h1 : xH), cb_readPart a h = some h1 → xC g l (d - 1) 16 [xr 3 (some 0), xi a] h none h1) (hf : f_RuleReader_readTest_l7 cb_readPart v1 v2 h = some o) (K0 : ∀ (h1 : xH), o = h1 → R = none ∧ H' = h1) : xEv g l d 15 7 [(0, xr 3 (some 0)), (1, xi v1), (2, xi v2)] [] h R H' := by
  obtain ⟨n, hn⟩ := whl_iff.mp hf
  clear hf
  induction n generalizing v2 h with
  | zero => cases hn
  | succ n ih =>
    obtain ⟨o2, hs, hn⟩ := lk_b (show (f_RuleReader_readTest_s7 cb_readPart v1 v2 h).bind (fun o => Sum.elim (itn _ n) some o) = some o from hn)
    exact f_RuleReader_readTest_s7_ok hD kb_readPart hs (fun u0 u1 e => ih (by rw [e] at hn; exact hn)) (fun u0 e => K0 u0 (by rw [e] at hn; exact (Option.some.inj hn).symm))
noncomputable def f_RuleReader_readTest_e (cb_readPart : Int32 → xH → Option xH) (v1 : Int32) (h : xH) : Option xH :=
  (cb_readPart v1 h).bind fun h3 =>
  f_RuleReader_readTest_l7 cb_readPart v1 (0 : Int32) h3
set_option maxHeartbeats 4000000 in
set_option maxRecDepth 100000 in
theorem f_RuleReader_readTest_e_ok {g : xG} {l : Launch} {d : Nat} {cb_readPart : Int32 → xH → Option xH} {v1 : Int32} {h : xH} {o : xH} {R : Option xV} {H' : xH} (hD : 1 ≤ d) (kb_readPart : ∀ (a : Int32) (h h1 : xH), cb_readPart a h = some h1 → xC g l (d - 1) 16 [xr 3 (some 0), xi a] h none h1) (hf : f_RuleReader_readTest_e cb_readPart v1 h = some o) (K0 : ∀ (h1 : xH), o = h1 → R = none ∧ H' = h1) : xEv g l d 15 0 [(0, xr 3 (some 0)), (1, xi v1)] [] h R H' := by
  unfold f_RuleReader_readTest_e at hf
  refine xs_aload_n d15_0 rfl ?_
  refine xs_iload_n d15_1 rfl ?_
  obtain ⟨h3, hc2, hf⟩ := lk_b hf
  refine xe_callv0 (as := [xi v1]) (st := []) (h2 := h3) (d2 := d - 1) d15_2 ky15 ml50 st16 (by decide) cn16 rfl na16 (Nat.le_of_ble_eq_true rfl) (by omega) (kb_readPart _ _ _ hc2) ?_
  refine xs_iconst (v := 0) d15_5 (by decide) ?_
  refine xe_istore_n (v := (0 : Int32)) (ls2 := [(0, xr 3 (some 0)), (1, xi v1), (2, xi (0 : Int32))]) d15_6 mx15 (by decide) rfl rfl ?_
  exact f_RuleReader_readTest_l7_ok hD kb_readPart hf K0
noncomputable def f_RuleReader_readTest (cb_readPart : Int32 → xH → Option xH) (v1 : Int32) (h : xH) : Option xH := f_RuleReader_readTest_e cb_readPart v1 h
theorem f_RuleReader_readTest_ok {g : xG} {l : Launch} {d : Nat} {cb_readPart : Int32 → xH → Option xH} {v1 : Int32} {h : xH} {h1 : xH} (hD : 1 ≤ d) (kb_readPart : ∀ (a : Int32) (h h1 : xH), cb_readPart a h = some h1 → xC g l (d - 1) 16 [xr 3 (some 0), xi a] h none h1) (hf : f_RuleReader_readTest cb_readPart v1 h = some h1) : xC g l d 15 [xr 3 (some 0), xi v1] h none h1 :=
  xC_of (by decide) (Nat.le_of_ble_eq_true rfl) (f_RuleReader_readTest_e_ok hD kb_readPart hf (fun _ e => ⟨rfl, e⟩))
theorem d16_0 : decode (xcode 16) 0 = .ok (.aload_n 0, 1) := by decide +kernel
theorem d16_1 : decode (xcode 16) 1 = .ok (.iload_n 1, 1) := by decide +kernel
theorem d16_2 : decode (xcode 16) 2 = .ok (.invokevirtual 72, 3) := by decide +kernel
theorem d16_5 : decode (xcode 16) 5 = .ok (.iconst 0, 1) := by decide +kernel
theorem d16_6 : decode (xcode 16) 6 = .ok (.istore_n 2, 1) := by decide +kernel
theorem d16_7 : decode (xcode 16) 7 = .ok (.iload_n 2, 1) := by decide +kernel
theorem d16_8 : decode (xcode 16) 8 = .ok (.sipush 400, 3) := by decide +kernel
theorem d16_11 : decode (xcode 16) 11 = .ok (.if_icmp .ge 52, 3) := by decide +kernel
theorem d16_14 : decode (xcode 16) 14 = .ok (.aload_n 0, 1) := by decide +kernel
theorem d16_15 : decode (xcode 16) 15 = .ok (.getfield 9, 3) := by decide +kernel
theorem d16_18 : decode (xcode 16) 18 = .ok (.invokevirtual 60, 3) := by decide +kernel
theorem d16_21 : decode (xcode 16) 21 = .ok (.ifCond .eq 42, 3) := by decide +kernel
theorem d16_24 : decode (xcode 16) 24 = .ok (.aload_n 0, 1) := by decide +kernel
theorem d16_25 : decode (xcode 16) 25 = .ok (.getfield 9, 3) := by decide +kernel
theorem d16_28 : decode (xcode 16) 28 = .ok (.bipush 18, 2) := by decide +kernel
theorem d16_30 : decode (xcode 16) 30 = .ok (.invokevirtual 46, 3) := by decide +kernel
theorem d16_33 : decode (xcode 16) 33 = .ok (.ifCond .eq 30, 3) := by decide +kernel
theorem d16_36 : decode (xcode 16) 36 = .ok (.aload_n 0, 1) := by decide +kernel
theorem d16_37 : decode (xcode 16) 37 = .ok (.getfield 9, 3) := by decide +kernel
theorem d16_40 : decode (xcode 16) 40 = .ok (.invokevirtual 54, 3) := by decide +kernel
theorem d16_43 : decode (xcode 16) 43 = .ok (.aload_n 0, 1) := by decide +kernel
theorem d16_44 : decode (xcode 16) 44 = .ok (.iload_n 1, 1) := by decide +kernel
theorem d16_45 : decode (xcode 16) 45 = .ok (.invokevirtual 72, 3) := by decide +kernel
theorem d16_48 : decode (xcode 16) 48 = .ok (.aload_n 0, 1) := by decide +kernel
theorem d16_49 : decode (xcode 16) 49 = .ok (.getfield 15, 3) := by decide +kernel
theorem d16_52 : decode (xcode 16) 52 = .ok (.bipush 22, 2) := by decide +kernel
theorem d16_54 : decode (xcode 16) 54 = .ok (.invokevirtual 66, 3) := by decide +kernel
theorem d16_57 : decode (xcode 16) 57 = .ok (.iinc 2 1, 3) := by decide +kernel
theorem d16_60 : decode (xcode 16) 60 = .ok (.goto (-53), 3) := by decide +kernel
theorem d16_63 : decode (xcode 16) 63 = .ok (.return_, 1) := by decide +kernel
noncomputable def f_RuleReader_readPart_s7 (cb_readFact : Int32 → xH → Option xH) (v1 : Int32) (v2 : Int32) (h : xH) : Option ((Int32 × xH) ⊕ xH) :=
  if (400 : Int32) ≤ v2 then (
  some (Sum.inr (h))) else (
  (f_Tape_isWell h).bind fun r5 =>
  if r5 = (0 : Int32) then (
  some (Sum.inr (h))) else (
  (f_Tape_isWord (18 : Int32) h).bind fun r8 =>
  if r8 = (0 : Int32) then (
  some (Sum.inr (h))) else (
  (f_Tape_goOn h).bind fun h13 =>
  (cb_readFact v1 h13).bind fun h16 =>
  (h16.2.2.1 3 1 0).bind fun i917 =>
  (f_Rule_add i917 (22 : Int32) h16).bind fun h20 =>
  xlet (v2 + (1 : Int32)) fun v2_21 =>
  some (Sum.inl (v2_21, h20)))))
set_option maxHeartbeats 4000000 in
set_option maxRecDepth 100000 in
theorem f_RuleReader_readPart_s7_ok {g : xG} {l : Launch} {d : Nat} {cb_readFact : Int32 → xH → Option xH} {v1 : Int32} {v2 : Int32} {h : xH} {o : ((Int32 × xH) ⊕ xH)} {R : Option xV} {H' : xH} (hD : 1 ≤ d) (kb_readFact : ∀ (a : Int32) (h h1 : xH), cb_readFact a h = some h1 → xC g l (d - 1) 17 [xr 3 (some 0), xi a] h none h1) (hf : f_RuleReader_readPart_s7 cb_readFact v1 v2 h = some o) (K1 : ∀ (w2 : Int32) (h1 : xH), o = Sum.inl (w2, h1) → xEv g l d 16 7 [(0, xr 3 (some 0)), (1, xi v1), (2, xi w2)] [] h1 R H') (K0 : ∀ (h1 : xH), o = Sum.inr (h1) → R = none ∧ H' = h1) : xEv g l d 16 7 [(0, xr 3 (some 0)), (1, xi v1), (2, xi v2)] [] h R H' := by
  unfold f_RuleReader_readPart_s7 at hf
  refine xs_iload_n d16_7 rfl ?_
  refine xs_sipush (v := 400) d16_8 (by decide) ?_
  rcases lk_if hf with ⟨hc4, hf⟩ | ⟨hc4, hf⟩
  · refine xs_icmp_ge (tgt := 63) d16_11 (by decide) (fun _ => ?_) (fun hn => absurd hc4 hn)
    obtain ⟨eR, eH⟩ := K0 _ (Option.some.inj hf).symm
    subst eR; subst eH
    exact xs_vret d16_63 rt16
  · refine xs_icmp_ge (tgt := 63) d16_11 (by decide) (fun hp => absurd hp hc4) (fun _ => ?_)
    refine xs_aload_n d16_14 rfl ?_
    refine xe_getc (j := 0) d16_15 ky16 fl58 fk3_0 rfl ?_
    obtain ⟨r5, hc6, hf⟩ := lk_b hf
    refine xe_callv1 (as := []) (st := []) (h2 := h) (d2 := d - 1) d16_18 ky16 ml47 st69 (by decide) cn69 rfl na69 (Nat.le_of_ble_eq_true rfl) (by omega) (f_Tape_isWell_ok (by omega) hc6) ?_
    rcases lk_if hf with ⟨hc7, hf⟩ | ⟨hc7, hf⟩
    · refine xs_if_eq (tgt := 63) d16_21 (by decide) (fun _ => ?_) (fun hn => absurd hc7 hn)
      obtain ⟨eR, eH⟩ := K0 _ (Option.some.inj hf).symm
      subst eR; subst eH
      exact xs_vret d16_63 rt16
    · refine xs_if_eq (tgt := 63) d16_21 (by decide) (fun hp => absurd hp hc7) (fun _ => ?_)
      refine xs_aload_n d16_24 rfl ?_
      refine xe_getc (j := 0) d16_25 ky16 fl58 fk3_0 rfl ?_
      refine xs_bipush (v := 18) d16_28 (by decide) ?_
      obtain ⟨r8, hc9, hf⟩ := lk_b hf
      refine xe_callv1 (as := [xi (18 : Int32)]) (st := []) (h2 := h) (d2 := d - 1) d16_30 ky16 ml40 st72 (by decide) cn72 rfl na72 (Nat.le_of_ble_eq_true rfl) (by omega) (f_Tape_isWord_ok (by omega) hc9) ?_
      rcases lk_if hf with ⟨hc10, hf⟩ | ⟨hc10, hf⟩
      · refine xs_if_eq (tgt := 63) d16_33 (by decide) (fun _ => ?_) (fun hn => absurd hc10 hn)
        obtain ⟨eR, eH⟩ := K0 _ (Option.some.inj hf).symm
        subst eR; subst eH
        exact xs_vret d16_63 rt16
      · refine xs_if_eq (tgt := 63) d16_33 (by decide) (fun hp => absurd hp hc10) (fun _ => ?_)
        refine xs_aload_n d16_36 rfl ?_
        refine xe_getc (j := 0) d16_37 ky16 fl58 fk3_0 rfl ?_
        obtain ⟨h13, hc12, hf⟩ := lk_b hf
        refine xe_callv0 (as := []) (st := []) (h2 := h13) (d2 := d - 1) d16_40 ky16 ml42 st68 (by decide) cn68 rfl na68 (Nat.le_of_ble_eq_true rfl) (by omega) (f_Tape_goOn_ok (by omega) hc12) ?_
        refine xs_aload_n d16_43 rfl ?_
        refine xs_iload_n d16_44 rfl ?_
        obtain ⟨h16, hc15, hf⟩ := lk_b hf
        refine xe_callv0 (as := [xi v1]) (st := []) (h2 := h16) (d2 := d - 1) d16_45 ky16 ml51 st17 (by decide) cn17 rfl na17 (Nat.le_of_ble_eq_true rfl) (by omega) (kb_readFact _ _ _ hc15) ?_
        refine xs_aload_n d16_48 rfl ?_
        refine xe_getd d16_49 ky16 fl59 fk3_1 ?_
        refine xs_bipush (v := 22) d16_52 (by decide) ?_
        obtain ⟨i917, ei917, hf⟩ := lk_b hf
        rw [ei917]
        obtain ⟨h20, hc19, hf⟩ := lk_b hf
        refine xe_callv0 (as := [xi (22 : Int32)]) (st := []) (h2 := h20) (d2 := d - 1) d16_54 ky16 ml46 st9 (by decide) cn9 rfl na9 (Nat.le_of_ble_eq_true rfl) (by omega) (f_Rule_add_ok (by omega) hc19) ?_
        obtain ⟨v2_21, ev2_21, hf⟩ := lk_let hf
        refine xe_iinc (v := v2_21) (b := 1) (ls2 := [(0, xr 3 (some 0)), (1, xi v1), (2, xi v2_21)]) d16_57 mx16 (by decide) rfl (by decide) ev2_21 rfl ?_
        refine xs_goto (tgt := 7) d16_60 (by decide) ?_
        exact K1 _ _ (Option.some.inj hf).symm
noncomputable def f_RuleReader_readPart_l7 (cb_readFact : Int32 → xH → Option xH) (v1 : Int32) (v2 : Int32) (h : xH) : Option xH :=
  whl (fun s => f_RuleReader_readPart_s7 cb_readFact v1 s.1 s.2) (v2, h)
theorem f_RuleReader_readPart_l7_ok {g : xG} {l : Launch} {d : Nat} {cb_readFact : Int32 → xH → Option xH} {v1 : Int32} {v2 : Int32} {h : xH} {o : xH} {R : Option xV} {H' : xH} (hD : 1 ≤ d) (kb_readFact : ∀ (a : Int32) (h h1 : xH), cb_readFact a h = some h1 → xC g l (d - 1) 17 [xr 3 (some 0), xi a] h none h1) (hf : f_RuleReader_readPart_l7 cb_readFact v1 v2 h = some o) (K0 : ∀ (h1 : xH), o = h1 → R = none ∧ H' = h1) : xEv g l d 16 7 [(0, xr 3 (some 0)), (1, xi v1), (2, xi v2)] [] h R H' := by
  obtain ⟨n, hn⟩ := whl_iff.mp hf
  clear hf
  induction n generalizing v2 h with
  | zero => cases hn
  | succ n ih =>
    obtain ⟨o2, hs, hn⟩ := lk_b (show (f_RuleReader_readPart_s7 cb_readFact v1 v2 h).bind (fun o => Sum.elim (itn _ n) some o) = some o from hn)
    exact f_RuleReader_readPart_s7_ok hD kb_readFact hs (fun u0 u1 e => ih (by rw [e] at hn; exact hn)) (fun u0 e => K0 u0 (by rw [e] at hn; exact (Option.some.inj hn).symm))
noncomputable def f_RuleReader_readPart_e (cb_readFact : Int32 → xH → Option xH) (v1 : Int32) (h : xH) : Option xH :=
  (cb_readFact v1 h).bind fun h3 =>
  f_RuleReader_readPart_l7 cb_readFact v1 (0 : Int32) h3
set_option maxHeartbeats 4000000 in
set_option maxRecDepth 100000 in
theorem f_RuleReader_readPart_e_ok {g : xG} {l : Launch} {d : Nat} {cb_readFact : Int32 → xH → Option xH} {v1 : Int32} {h : xH} {o : xH} {R : Option xV} {H' : xH} (hD : 1 ≤ d) (kb_readFact : ∀ (a : Int32) (h h1 : xH), cb_readFact a h = some h1 → xC g l (d - 1) 17 [xr 3 (some 0), xi a] h none h1) (hf : f_RuleReader_readPart_e cb_readFact v1 h = some o) (K0 : ∀ (h1 : xH), o = h1 → R = none ∧ H' = h1) : xEv g l d 16 0 [(0, xr 3 (some 0)), (1, xi v1)] [] h R H' := by
  unfold f_RuleReader_readPart_e at hf
  refine xs_aload_n d16_0 rfl ?_
  refine xs_iload_n d16_1 rfl ?_
  obtain ⟨h3, hc2, hf⟩ := lk_b hf
  refine xe_callv0 (as := [xi v1]) (st := []) (h2 := h3) (d2 := d - 1) d16_2 ky16 ml51 st17 (by decide) cn17 rfl na17 (Nat.le_of_ble_eq_true rfl) (by omega) (kb_readFact _ _ _ hc2) ?_
  refine xs_iconst (v := 0) d16_5 (by decide) ?_
  refine xe_istore_n (v := (0 : Int32)) (ls2 := [(0, xr 3 (some 0)), (1, xi v1), (2, xi (0 : Int32))]) d16_6 mx16 (by decide) rfl rfl ?_
  exact f_RuleReader_readPart_l7_ok hD kb_readFact hf K0
noncomputable def f_RuleReader_readPart (cb_readFact : Int32 → xH → Option xH) (v1 : Int32) (h : xH) : Option xH := f_RuleReader_readPart_e cb_readFact v1 h
theorem f_RuleReader_readPart_ok {g : xG} {l : Launch} {d : Nat} {cb_readFact : Int32 → xH → Option xH} {v1 : Int32} {h : xH} {h1 : xH} (hD : 1 ≤ d) (kb_readFact : ∀ (a : Int32) (h h1 : xH), cb_readFact a h = some h1 → xC g l (d - 1) 17 [xr 3 (some 0), xi a] h none h1) (hf : f_RuleReader_readPart cb_readFact v1 h = some h1) : xC g l d 16 [xr 3 (some 0), xi v1] h none h1 :=
  xC_of (by decide) (Nat.le_of_ble_eq_true rfl) (f_RuleReader_readPart_e_ok hD kb_readFact hf (fun _ e => ⟨rfl, e⟩))
theorem d20_0 : decode (xcode 20) 0 = .ok (.aload_n 0, 1) := by decide +kernel
theorem d20_1 : decode (xcode 20) 1 = .ok (.getfield 9, 3) := by decide +kernel
theorem d20_4 : decode (xcode 20) 4 = .ok (.getfield 88, 3) := by decide +kernel
theorem d20_7 : decode (xcode 20) 7 = .ok (.iconst 3, 1) := by decide +kernel
theorem d20_8 : decode (xcode 20) 8 = .ok (.if_icmp .eq 5, 3) := by decide +kernel
theorem d20_11 : decode (xcode 20) 11 = .ok (.iconst (-1), 1) := by decide +kernel
theorem d20_12 : decode (xcode 20) 12 = .ok (.ireturn, 1) := by decide +kernel
theorem d20_13 : decode (xcode 20) 13 = .ok (.aload_n 0, 1) := by decide +kernel
theorem d20_14 : decode (xcode 20) 14 = .ok (.getfield 9, 3) := by decide +kernel
theorem d20_17 : decode (xcode 20) 17 = .ok (.getfield 91, 3) := by decide +kernel
theorem d20_20 : decode (xcode 20) 20 = .ok (.lookupswitch 67 #[(60, 52), (61, 58), (62, 64), (460, 55), (462, 61)], 52) := by decide +kernel
theorem d20_72 : decode (xcode 20) 72 = .ok (.bipush 17, 2) := by decide +kernel
theorem d20_74 : decode (xcode 20) 74 = .ok (.ireturn, 1) := by decide +kernel
theorem d20_75 : decode (xcode 20) 75 = .ok (.bipush 18, 2) := by decide +kernel
theorem d20_77 : decode (xcode 20) 77 = .ok (.ireturn, 1) := by decide +kernel
theorem d20_78 : decode (xcode 20) 78 = .ok (.bipush 19, 2) := by decide +kernel
theorem d20_80 : decode (xcode 20) 80 = .ok (.ireturn, 1) := by decide +kernel
theorem d20_81 : decode (xcode 20) 81 = .ok (.bipush 20, 2) := by decide +kernel
theorem d20_83 : decode (xcode 20) 83 = .ok (.ireturn, 1) := by decide +kernel
theorem d20_84 : decode (xcode 20) 84 = .ok (.bipush 21, 2) := by decide +kernel
theorem d20_86 : decode (xcode 20) 86 = .ok (.ireturn, 1) := by decide +kernel
theorem d20_87 : decode (xcode 20) 87 = .ok (.iconst (-1), 1) := by decide +kernel
theorem d20_88 : decode (xcode 20) 88 = .ok (.ireturn, 1) := by decide +kernel
noncomputable def f_RuleReader_comparisonHere_e (h : xH) : Option Int32 :=
  if (h.1 7 7 0) = (3 : Int32) then (
  if (h.1 7 8 0) = (60 : Int32) then (
  some ((17 : Int32))) else (
  if (h.1 7 8 0) = (61 : Int32) then (
  some ((19 : Int32))) else (
  if (h.1 7 8 0) = (62 : Int32) then (
  some ((21 : Int32))) else (
  if (h.1 7 8 0) = (460 : Int32) then (
  some ((18 : Int32))) else (
  if (h.1 7 8 0) = (462 : Int32) then (
  some ((20 : Int32))) else (
  some ((-1 : Int32)))))))) else (
  some ((-1 : Int32)))
set_option maxHeartbeats 4000000 in
set_option maxRecDepth 100000 in
theorem f_RuleReader_comparisonHere_e_ok {g : xG} {l : Launch} {d : Nat} {h : xH} {o : Int32} {R : Option xV} (hD : 0 ≤ d) (hf : f_RuleReader_comparisonHere_e h = some o) (K0 : ∀ (a : Int32), o = a → R = some (xi a)) : xEv g l d 20 0 [(0, xr 3 (some 0))] [] h R h := by
  unfold f_RuleReader_comparisonHere_e at hf
  refine xs_aload_n d20_0 rfl ?_
  refine xe_getc (j := 0) d20_1 ky20 fl58 fk3_0 rfl ?_
  refine xe_geti d20_4 ky20 fl9 fk7_7 ?_
  refine xs_iconst (v := 3) d20_7 (by decide) ?_
  rcases lk_if hf with ⟨hc1, hf⟩ | ⟨hc1, hf⟩
  · refine xs_icmp_eq (tgt := 13) d20_8 (by decide) (fun _ => ?_) (fun hn => absurd hc1 hn)
    refine xs_aload_n d20_13 rfl ?_
    refine xe_getc (j := 0) d20_14 ky20 fl58 fk3_0 rfl ?_
    refine xe_geti d20_17 ky20 fl12 fk7_8 ?_
    rcases lk_if hf with ⟨hc2, hf⟩ | ⟨hc2, hf⟩
    · refine xs_lookup (tgt := 72) d20_20 (by decide) (by rw [hc2]; first | done | rfl) (by decide) ?_
      refine xs_bipush (v := 17) d20_72 (by decide) ?_
      obtain eR := K0 _ (Option.some.inj hf).symm
      subst eR
      exact xs_iret d20_74 rt20
    · skip
      rcases lk_if hf with ⟨hc3, hf⟩ | ⟨hc3, hf⟩
      · refine xs_lookup (tgt := 78) d20_20 (by decide) (by rw [hc3]; first | done | rfl) (by decide) ?_
        refine xs_bipush (v := 19) d20_78 (by decide) ?_
        obtain eR := K0 _ (Option.some.inj hf).symm
        subst eR
        exact xs_iret d20_80 rt20
      · skip
        rcases lk_if hf with ⟨hc4, hf⟩ | ⟨hc4, hf⟩
        · refine xs_lookup (tgt := 84) d20_20 (by decide) (by rw [hc4]; first | done | rfl) (by decide) ?_
          refine xs_bipush (v := 21) d20_84 (by decide) ?_
          obtain eR := K0 _ (Option.some.inj hf).symm
          subst eR
          exact xs_iret d20_86 rt20
        · skip
          rcases lk_if hf with ⟨hc5, hf⟩ | ⟨hc5, hf⟩
          · refine xs_lookup (tgt := 75) d20_20 (by decide) (by rw [hc5]; first | done | rfl) (by decide) ?_
            refine xs_bipush (v := 18) d20_75 (by decide) ?_
            obtain eR := K0 _ (Option.some.inj hf).symm
            subst eR
            exact xs_iret d20_77 rt20
          · skip
            rcases lk_if hf with ⟨hc6, hf⟩ | ⟨hc6, hf⟩
            · refine xs_lookup (tgt := 81) d20_20 (by decide) (by rw [hc6]; first | done | rfl) (by decide) ?_
              refine xs_bipush (v := 20) d20_81 (by decide) ?_
              obtain eR := K0 _ (Option.some.inj hf).symm
              subst eR
              exact xs_iret d20_83 rt20
            · skip
              refine xs_lookup (tgt := 87) d20_20 (by decide) (xlk_out (l := [(60, 52), (61, 58), (62, 64), (460, 55), (462, 61)]) (List.forall_mem_cons.mpr ⟨xlk_ne (by decide) hc2, List.forall_mem_cons.mpr ⟨xlk_ne (by decide) hc3, List.forall_mem_cons.mpr ⟨xlk_ne (by decide) hc4, List.forall_mem_cons.mpr ⟨xlk_ne (by decide) hc5, List.forall_mem_cons.mpr ⟨xlk_ne (by decide) hc6, fun _ h => absurd h List.not_mem_nil⟩⟩⟩⟩⟩)) (by decide) ?_
              refine xs_iconst (v := -1) d20_87 (by decide) ?_
              obtain eR := K0 _ (Option.some.inj hf).symm
              subst eR
              exact xs_iret d20_88 rt20
  · refine xs_icmp_eq (tgt := 13) d20_8 (by decide) (fun hp => absurd hp hc1) (fun _ => ?_)
    refine xs_iconst (v := -1) d20_11 (by decide) ?_
    obtain eR := K0 _ (Option.some.inj hf).symm
    subst eR
    exact xs_iret d20_12 rt20
noncomputable def f_RuleReader_comparisonHere (h : xH) : Option Int32 := f_RuleReader_comparisonHere_e h
theorem f_RuleReader_comparisonHere_ok {g : xG} {l : Launch} {d : Nat} {h : xH} {r : Int32} (hD : 0 ≤ d) (hf : f_RuleReader_comparisonHere h = some r) : xC g l d 20 [xr 3 (some 0)] h (some (xi r)) h :=
  xC_of (by decide) (Nat.le_of_ble_eq_true rfl) (f_RuleReader_comparisonHere_e_ok hD hf (fun _ e => by rw [e]))
theorem d19_0 : decode (xcode 19) 0 = .ok (.aload_n 0, 1) := by decide +kernel
theorem d19_1 : decode (xcode 19) 1 = .ok (.invokevirtual 57, 3) := by decide +kernel
theorem d19_4 : decode (xcode 19) 4 = .ok (.aload_n 0, 1) := by decide +kernel
theorem d19_5 : decode (xcode 19) 5 = .ok (.getfield 9, 3) := by decide +kernel
theorem d19_8 : decode (xcode 19) 8 = .ok (.invokevirtual 60, 3) := by decide +kernel
theorem d19_11 : decode (xcode 19) 11 = .ok (.ifCond .ne 4, 3) := by decide +kernel
theorem d19_14 : decode (xcode 19) 14 = .ok (.return_, 1) := by decide +kernel
theorem d19_15 : decode (xcode 19) 15 = .ok (.aload_n 0, 1) := by decide +kernel
theorem d19_16 : decode (xcode 19) 16 = .ok (.invokevirtual 84, 3) := by decide +kernel
theorem d19_19 : decode (xcode 19) 19 = .ok (.istore_n 1, 1) := by decide +kernel
theorem d19_20 : decode (xcode 19) 20 = .ok (.iload_n 1, 1) := by decide +kernel
theorem d19_21 : decode (xcode 19) 21 = .ok (.iconst (-1), 1) := by decide +kernel
theorem d19_22 : decode (xcode 19) 22 = .ok (.if_icmp .ne 12, 3) := by decide +kernel
theorem d19_25 : decode (xcode 19) 25 = .ok (.aload_n 0, 1) := by decide +kernel
theorem d19_26 : decode (xcode 19) 26 = .ok (.getfield 9, 3) := by decide +kernel
theorem d19_29 : decode (xcode 19) 29 = .ok (.iconst 0, 1) := by decide +kernel
theorem d19_30 : decode (xcode 19) 30 = .ok (.invokevirtual 50, 3) := by decide +kernel
theorem d19_33 : decode (xcode 19) 33 = .ok (.return_, 1) := by decide +kernel
theorem d19_34 : decode (xcode 19) 34 = .ok (.aload_n 0, 1) := by decide +kernel
theorem d19_35 : decode (xcode 19) 35 = .ok (.getfield 28, 3) := by decide +kernel
theorem d19_38 : decode (xcode 19) 38 = .ok (.bipush 60, 2) := by decide +kernel
theorem d19_40 : decode (xcode 19) 40 = .ok (.if_icmp .lt 11, 3) := by decide +kernel
theorem d19_43 : decode (xcode 19) 43 = .ok (.aload_n 0, 1) := by decide +kernel
theorem d19_44 : decode (xcode 19) 44 = .ok (.getfield 9, 3) := by decide +kernel
theorem d19_47 : decode (xcode 19) 47 = .ok (.iconst 3, 1) := by decide +kernel
theorem d19_48 : decode (xcode 19) 48 = .ok (.invokevirtual 50, 3) := by decide +kernel
theorem d19_51 : decode (xcode 19) 51 = .ok (.aload_n 0, 1) := by decide +kernel
theorem d19_52 : decode (xcode 19) 52 = .ok (.dup, 1) := by decide +kernel
theorem d19_53 : decode (xcode 19) 53 = .ok (.getfield 28, 3) := by decide +kernel
theorem d19_56 : decode (xcode 19) 56 = .ok (.iconst 1, 1) := by decide +kernel
theorem d19_57 : decode (xcode 19) 57 = .ok (.iadd, 1) := by decide +kernel
theorem d19_58 : decode (xcode 19) 58 = .ok (.putfield 28, 3) := by decide +kernel
theorem d19_61 : decode (xcode 19) 61 = .ok (.aload_n 0, 1) := by decide +kernel
theorem d19_62 : decode (xcode 19) 62 = .ok (.getfield 9, 3) := by decide +kernel
theorem d19_65 : decode (xcode 19) 65 = .ok (.invokevirtual 54, 3) := by decide +kernel
theorem d19_68 : decode (xcode 19) 68 = .ok (.aload_n 0, 1) := by decide +kernel
theorem d19_69 : decode (xcode 19) 69 = .ok (.invokevirtual 57, 3) := by decide +kernel
theorem d19_72 : decode (xcode 19) 72 = .ok (.aload_n 0, 1) := by decide +kernel
theorem d19_73 : decode (xcode 19) 73 = .ok (.getfield 15, 3) := by decide +kernel
theorem d19_76 : decode (xcode 19) 76 = .ok (.iload_n 1, 1) := by decide +kernel
theorem d19_77 : decode (xcode 19) 77 = .ok (.invokevirtual 66, 3) := by decide +kernel
theorem d19_80 : decode (xcode 19) 80 = .ok (.return_, 1) := by decide +kernel
noncomputable def f_RuleReader_readComparison_b51 (v1 : Int32) (h : xH) : Option xH :=
  xlet (xsI h 3 3 0 ((h.1 3 3 0) + (1 : Int32))) fun h14 =>
  (f_Tape_goOn h14).bind fun h17 =>
  (f_RuleReader_readSum h17).bind fun h20 =>
  (h20.2.2.1 3 1 0).bind fun i921 =>
  (f_Rule_add i921 v1 h20).bind fun h24 =>
  some (h24)
set_option maxHeartbeats 4000000 in
set_option maxRecDepth 100000 in
theorem f_RuleReader_readComparison_b51_ok {g : xG} {l : Launch} {d : Nat} {v1 : Int32} {h : xH} {o : xH} {R : Option xV} {H' : xH} (hD : 4 ≤ d) (hf : f_RuleReader_readComparison_b51 v1 h = some o) (K0 : ∀ (h1 : xH), o = h1 → R = none ∧ H' = h1) : xEv g l d 19 51 [(0, xr 3 (some 0)), (1, xi v1)] [] h R H' := by
  unfold f_RuleReader_readComparison_b51 at hf
  refine xs_aload_n d19_51 rfl ?_
  refine xs_dup d19_52 rfl ?_
  refine xe_geti d19_53 ky19 fl61 fk3_3 ?_
  refine xs_iconst (v := 1) d19_56 (by decide) ?_
  refine xs_iadd d19_57 ?_
  obtain ⟨h14, eh14, hf⟩ := lk_let hf
  refine xe_puti d19_58 ky19 fl61 fk3_3 ft3_3 eh14 ?_
  refine xs_aload_n d19_61 rfl ?_
  refine xe_getc (j := 0) d19_62 ky19 fl58 fk3_0 rfl ?_
  obtain ⟨h17, hc16, hf⟩ := lk_b hf
  refine xe_callv0 (as := []) (st := []) (h2 := h17) (d2 := d - 1) d19_65 ky19 ml42 st68 (by decide) cn68 rfl na68 (Nat.le_of_ble_eq_true rfl) (by omega) (f_Tape_goOn_ok (by omega) hc16) ?_
  refine xs_aload_n d19_68 rfl ?_
  obtain ⟨h20, hc19, hf⟩ := lk_b hf
  refine xe_callv0 (as := []) (st := []) (h2 := h20) (d2 := d - 1) d19_69 ky19 ml43 st21 (by decide) cn21 rfl na21 (Nat.le_of_ble_eq_true rfl) (by omega) (f_RuleReader_readSum_ok (by omega) hc19) ?_
  refine xs_aload_n d19_72 rfl ?_
  refine xe_getd d19_73 ky19 fl59 fk3_1 ?_
  refine xs_iload_n d19_76 rfl ?_
  obtain ⟨i921, ei921, hf⟩ := lk_b hf
  rw [ei921]
  obtain ⟨h24, hc23, hf⟩ := lk_b hf
  refine xe_callv0 (as := [xi v1]) (st := []) (h2 := h24) (d2 := d - 1) d19_77 ky19 ml46 st9 (by decide) cn9 rfl na9 (Nat.le_of_ble_eq_true rfl) (by omega) (f_Rule_add_ok (by omega) hc23) ?_
  obtain ⟨eR, eH⟩ := K0 _ (Option.some.inj hf).symm
  subst eR; subst eH
  exact xs_vret d19_80 rt19
noncomputable def f_RuleReader_readComparison_e (h : xH) : Option xH :=
  (f_RuleReader_readSum h).bind fun h3 =>
  (f_Tape_isWell h3).bind fun r4 =>
  if r4 = (0 : Int32) then (
  some (h3)) else (
  (f_RuleReader_comparisonHere h3).bind fun r7 =>
  if r7 = (-1 : Int32) then (
  (f_Tape_fail (0 : Int32) h3).bind fun h12 =>
  some (h12)) else (
  if (h3.1 3 3 0) < (60 : Int32) then (
  f_RuleReader_readComparison_b51 r7 h3) else (
  (f_Tape_fail (3 : Int32) h3).bind fun h27 =>
  f_RuleReader_readComparison_b51 r7 h27)))
set_option maxHeartbeats 4000000 in
set_option maxRecDepth 100000 in
theorem f_RuleReader_readComparison_e_ok {g : xG} {l : Launch} {d : Nat} {h : xH} {o : xH} {R : Option xV} {H' : xH} (hD : 4 ≤ d) (hf : f_RuleReader_readComparison_e h = some o) (K0 : ∀ (h1 : xH), o = h1 → R = none ∧ H' = h1) : xEv g l d 19 0 [(0, xr 3 (some 0))] [] h R H' := by
  unfold f_RuleReader_readComparison_e at hf
  refine xs_aload_n d19_0 rfl ?_
  obtain ⟨h3, hc2, hf⟩ := lk_b hf
  refine xe_callv0 (as := []) (st := []) (h2 := h3) (d2 := d - 1) d19_1 ky19 ml43 st21 (by decide) cn21 rfl na21 (Nat.le_of_ble_eq_true rfl) (by omega) (f_RuleReader_readSum_ok (by omega) hc2) ?_
  refine xs_aload_n d19_4 rfl ?_
  refine xe_getc (j := 0) d19_5 ky19 fl58 fk3_0 rfl ?_
  obtain ⟨r4, hc5, hf⟩ := lk_b hf
  refine xe_callv1 (as := []) (st := []) (h2 := h3) (d2 := d - 1) d19_8 ky19 ml47 st69 (by decide) cn69 rfl na69 (Nat.le_of_ble_eq_true rfl) (by omega) (f_Tape_isWell_ok (by omega) hc5) ?_
  rcases lk_if hf with ⟨hc6, hf⟩ | ⟨hc6, hf⟩
  · refine xs_if_ne (tgt := 15) d19_11 (by decide) (fun _ => ?_) (fun hn => absurd hc6 hn)
    obtain ⟨eR, eH⟩ := K0 _ (Option.some.inj hf).symm
    subst eR; subst eH
    exact xs_vret d19_14 rt19
  · refine xs_if_ne (tgt := 15) d19_11 (by decide) (fun hp => absurd hp hc6) (fun _ => ?_)
    refine xs_aload_n d19_15 rfl ?_
    obtain ⟨r7, hc8, hf⟩ := lk_b hf
    refine xe_callv1 (as := []) (st := []) (h2 := h3) (d2 := d - 1) d19_16 ky19 ml53 st20 (by decide) cn20 rfl na20 (Nat.le_of_ble_eq_true rfl) (by omega) (f_RuleReader_comparisonHere_ok (by omega) hc8) ?_
    refine xe_istore_n (v := r7) (ls2 := [(0, xr 3 (some 0)), (1, xi r7)]) d19_19 mx19 (by decide) rfl rfl ?_
    refine xs_iload_n d19_20 rfl ?_
    refine xs_iconst (v := -1) d19_21 (by decide) ?_
    rcases lk_if hf with ⟨hc9, hf⟩ | ⟨hc9, hf⟩
    · refine xs_icmp_ne (tgt := 34) d19_22 (by decide) (fun _ => ?_) (fun hn => absurd hc9 hn)
      refine xs_aload_n d19_25 rfl ?_
      refine xe_getc (j := 0) d19_26 ky19 fl58 fk3_0 rfl ?_
      refine xs_iconst (v := 0) d19_29 (by decide) ?_
      obtain ⟨h12, hc11, hf⟩ := lk_b hf
      refine xe_callv0 (as := [xi (0 : Int32)]) (st := []) (h2 := h12) (d2 := d - 1) d19_30 ky19 ml41 st70 (by decide) cn70 rfl na70 (Nat.le_of_ble_eq_true rfl) (by omega) (f_Tape_fail_ok (by omega) hc11) ?_
      obtain ⟨eR, eH⟩ := K0 _ (Option.some.inj hf).symm
      subst eR; subst eH
      exact xs_vret d19_33 rt19
    · refine xs_icmp_ne (tgt := 34) d19_22 (by decide) (fun hp => absurd hp hc9) (fun _ => ?_)
      refine xs_aload_n d19_34 rfl ?_
      refine xe_geti d19_35 ky19 fl61 fk3_3 ?_
      refine xs_bipush (v := 60) d19_38 (by decide) ?_
      rcases lk_if hf with ⟨hc13, hf⟩ | ⟨hc13, hf⟩
      · refine xs_icmp_lt (tgt := 51) d19_40 (by decide) (fun _ => ?_) (fun hn => absurd hc13 hn)
        exact f_RuleReader_readComparison_b51_ok hD hf K0
      · refine xs_icmp_lt (tgt := 51) d19_40 (by decide) (fun hp => absurd hp hc13) (fun _ => ?_)
        refine xs_aload_n d19_43 rfl ?_
        refine xe_getc (j := 0) d19_44 ky19 fl58 fk3_0 rfl ?_
        refine xs_iconst (v := 3) d19_47 (by decide) ?_
        obtain ⟨h27, hc26, hf⟩ := lk_b hf
        refine xe_callv0 (as := [xi (3 : Int32)]) (st := []) (h2 := h27) (d2 := d - 1) d19_48 ky19 ml41 st70 (by decide) cn70 rfl na70 (Nat.le_of_ble_eq_true rfl) (by omega) (f_Tape_fail_ok (by omega) hc26) ?_
        exact f_RuleReader_readComparison_b51_ok hD hf K0
noncomputable def f_RuleReader_readComparison (h : xH) : Option xH := f_RuleReader_readComparison_e h
theorem f_RuleReader_readComparison_ok {g : xG} {l : Launch} {d : Nat} {h : xH} {h1 : xH} (hD : 4 ≤ d) (hf : f_RuleReader_readComparison h = some h1) : xC g l d 19 [xr 3 (some 0)] h none h1 :=
  xC_of (by decide) (Nat.le_of_ble_eq_true rfl) (f_RuleReader_readComparison_e_ok hD hf (fun _ e => ⟨rfl, e⟩))
theorem d18_0 : decode (xcode 18) 0 = .ok (.aload_n 0, 1) := by decide +kernel
theorem d18_1 : decode (xcode 18) 1 = .ok (.getfield 9, 3) := by decide +kernel
theorem d18_4 : decode (xcode 18) 4 = .ok (.bipush 93, 2) := by decide +kernel
theorem d18_6 : decode (xcode 18) 6 = .ok (.invokevirtual 75, 3) := by decide +kernel
theorem d18_9 : decode (xcode 18) 9 = .ok (.ifCond .eq 13, 3) := by decide +kernel
theorem d18_12 : decode (xcode 18) 12 = .ok (.aload_n 0, 1) := by decide +kernel
theorem d18_13 : decode (xcode 18) 13 = .ok (.getfield 9, 3) := by decide +kernel
theorem d18_16 : decode (xcode 18) 16 = .ok (.invokevirtual 54, 3) := by decide +kernel
theorem d18_19 : decode (xcode 18) 19 = .ok (.goto 11, 3) := by decide +kernel
theorem d18_22 : decode (xcode 18) 22 = .ok (.aload_n 0, 1) := by decide +kernel
theorem d18_23 : decode (xcode 18) 23 = .ok (.getfield 9, 3) := by decide +kernel
theorem d18_26 : decode (xcode 18) 26 = .ok (.iconst 0, 1) := by decide +kernel
theorem d18_27 : decode (xcode 18) 27 = .ok (.invokevirtual 50, 3) := by decide +kernel
theorem d18_30 : decode (xcode 18) 30 = .ok (.return_, 1) := by decide +kernel
noncomputable def f_RuleReader_readClosing_e (h : xH) : Option xH :=
  (f_Tape_isSign (93 : Int32) h).bind fun r1 =>
  if r1 = (0 : Int32) then (
  (f_Tape_fail (0 : Int32) h).bind fun h6 =>
  some (h6)) else (
  (f_Tape_goOn h).bind fun h9 =>
  some (h9))
set_option maxHeartbeats 4000000 in
set_option maxRecDepth 100000 in
theorem f_RuleReader_readClosing_e_ok {g : xG} {l : Launch} {d : Nat} {h : xH} {o : xH} {R : Option xV} {H' : xH} (hD : 1 ≤ d) (hf : f_RuleReader_readClosing_e h = some o) (K0 : ∀ (h1 : xH), o = h1 → R = none ∧ H' = h1) : xEv g l d 18 0 [(0, xr 3 (some 0))] [] h R H' := by
  unfold f_RuleReader_readClosing_e at hf
  refine xs_aload_n d18_0 rfl ?_
  refine xe_getc (j := 0) d18_1 ky18 fl58 fk3_0 rfl ?_
  refine xs_bipush (v := 93) d18_4 (by decide) ?_
  obtain ⟨r1, hc2, hf⟩ := lk_b hf
  refine xe_callv1 (as := [xi (93 : Int32)]) (st := []) (h2 := h) (d2 := d - 1) d18_6 ky18 ml48 st71 (by decide) cn71 rfl na71 (Nat.le_of_ble_eq_true rfl) (by omega) (f_Tape_isSign_ok (by omega) hc2) ?_
  rcases lk_if hf with ⟨hc3, hf⟩ | ⟨hc3, hf⟩
  · refine xs_if_eq (tgt := 22) d18_9 (by decide) (fun _ => ?_) (fun hn => absurd hc3 hn)
    refine xs_aload_n d18_22 rfl ?_
    refine xe_getc (j := 0) d18_23 ky18 fl58 fk3_0 rfl ?_
    refine xs_iconst (v := 0) d18_26 (by decide) ?_
    obtain ⟨h6, hc5, hf⟩ := lk_b hf
    refine xe_callv0 (as := [xi (0 : Int32)]) (st := []) (h2 := h6) (d2 := d - 1) d18_27 ky18 ml41 st70 (by decide) cn70 rfl na70 (Nat.le_of_ble_eq_true rfl) (by omega) (f_Tape_fail_ok (by omega) hc5) ?_
    obtain ⟨eR, eH⟩ := K0 _ (Option.some.inj hf).symm
    subst eR; subst eH
    exact xs_vret d18_30 rt18
  · refine xs_if_eq (tgt := 22) d18_9 (by decide) (fun hp => absurd hp hc3) (fun _ => ?_)
    refine xs_aload_n d18_12 rfl ?_
    refine xe_getc (j := 0) d18_13 ky18 fl58 fk3_0 rfl ?_
    obtain ⟨h9, hc8, hf⟩ := lk_b hf
    refine xe_callv0 (as := []) (st := []) (h2 := h9) (d2 := d - 1) d18_16 ky18 ml42 st68 (by decide) cn68 rfl na68 (Nat.le_of_ble_eq_true rfl) (by omega) (f_Tape_goOn_ok (by omega) hc8) ?_
    refine xs_goto (tgt := 30) d18_19 (by decide) ?_
    obtain ⟨eR, eH⟩ := K0 _ (Option.some.inj hf).symm
    subst eR; subst eH
    exact xs_vret d18_30 rt18
noncomputable def f_RuleReader_readClosing (h : xH) : Option xH := f_RuleReader_readClosing_e h
theorem f_RuleReader_readClosing_ok {g : xG} {l : Launch} {d : Nat} {h : xH} {h1 : xH} (hD : 1 ≤ d) (hf : f_RuleReader_readClosing h = some h1) : xC g l d 18 [xr 3 (some 0)] h none h1 :=
  xC_of (by decide) (Nat.le_of_ble_eq_true rfl) (f_RuleReader_readClosing_e_ok hD hf (fun _ e => ⟨rfl, e⟩))
theorem d17_0 : decode (xcode 17) 0 = .ok (.aload_n 0, 1) := by decide +kernel
theorem d17_1 : decode (xcode 17) 1 = .ok (.getfield 9, 3) := by decide +kernel
theorem d17_4 : decode (xcode 17) 4 = .ok (.bipush 19, 2) := by decide +kernel
theorem d17_6 : decode (xcode 17) 6 = .ok (.invokevirtual 46, 3) := by decide +kernel
theorem d17_9 : decode (xcode 17) 9 = .ok (.istore_n 2, 1) := by decide +kernel
theorem d17_10 : decode (xcode 17) 10 = .ok (.iload_n 2, 1) := by decide +kernel
theorem d17_11 : decode (xcode 17) 11 = .ok (.ifCond .ne 20, 3) := by decide +kernel
theorem d17_14 : decode (xcode 17) 14 = .ok (.aload_n 0, 1) := by decide +kernel
theorem d17_15 : decode (xcode 17) 15 = .ok (.getfield 9, 3) := by decide +kernel
theorem d17_18 : decode (xcode 17) 18 = .ok (.bipush 91, 2) := by decide +kernel
theorem d17_20 : decode (xcode 17) 20 = .ok (.invokevirtual 75, 3) := by decide +kernel
theorem d17_23 : decode (xcode 17) 23 = .ok (.ifCond .ne 8, 3) := by decide +kernel
theorem d17_26 : decode (xcode 17) 26 = .ok (.aload_n 0, 1) := by decide +kernel
theorem d17_27 : decode (xcode 17) 27 = .ok (.invokevirtual 78, 3) := by decide +kernel
theorem d17_30 : decode (xcode 17) 30 = .ok (.return_, 1) := by decide +kernel
theorem d17_31 : decode (xcode 17) 31 = .ok (.iload_n 1, 1) := by decide +kernel
theorem d17_32 : decode (xcode 17) 32 = .ok (.bipush 10, 2) := by decide +kernel
theorem d17_34 : decode (xcode 17) 34 = .ok (.if_icmp .lt 12, 3) := by decide +kernel
theorem d17_37 : decode (xcode 17) 37 = .ok (.aload_n 0, 1) := by decide +kernel
theorem d17_38 : decode (xcode 17) 38 = .ok (.getfield 9, 3) := by decide +kernel
theorem d17_41 : decode (xcode 17) 41 = .ok (.iconst 2, 1) := by decide +kernel
theorem d17_42 : decode (xcode 17) 42 = .ok (.invokevirtual 50, 3) := by decide +kernel
theorem d17_45 : decode (xcode 17) 45 = .ok (.return_, 1) := by decide +kernel
theorem d17_46 : decode (xcode 17) 46 = .ok (.aload_n 0, 1) := by decide +kernel
theorem d17_47 : decode (xcode 17) 47 = .ok (.getfield 9, 3) := by decide +kernel
theorem d17_50 : decode (xcode 17) 50 = .ok (.invokevirtual 54, 3) := by decide +kernel
theorem d17_53 : decode (xcode 17) 53 = .ok (.iload_n 2, 1) := by decide +kernel
theorem d17_54 : decode (xcode 17) 54 = .ok (.ifCond .eq 22, 3) := by decide +kernel
theorem d17_57 : decode (xcode 17) 57 = .ok (.aload_n 0, 1) := by decide +kernel
theorem d17_58 : decode (xcode 17) 58 = .ok (.iload_n 1, 1) := by decide +kernel
theorem d17_59 : decode (xcode 17) 59 = .ok (.iconst 1, 1) := by decide +kernel
theorem d17_60 : decode (xcode 17) 60 = .ok (.iadd, 1) := by decide +kernel
theorem d17_61 : decode (xcode 17) 61 = .ok (.invokevirtual 72, 3) := by decide +kernel
theorem d17_64 : decode (xcode 17) 64 = .ok (.aload_n 0, 1) := by decide +kernel
theorem d17_65 : decode (xcode 17) 65 = .ok (.getfield 15, 3) := by decide +kernel
theorem d17_68 : decode (xcode 17) 68 = .ok (.bipush 24, 2) := by decide +kernel
theorem d17_70 : decode (xcode 17) 70 = .ok (.invokevirtual 66, 3) := by decide +kernel
theorem d17_73 : decode (xcode 17) 73 = .ok (.goto 14, 3) := by decide +kernel
theorem d17_76 : decode (xcode 17) 76 = .ok (.aload_n 0, 1) := by decide +kernel
theorem d17_77 : decode (xcode 17) 77 = .ok (.iload_n 1, 1) := by decide +kernel
theorem d17_78 : decode (xcode 17) 78 = .ok (.iconst 1, 1) := by decide +kernel
theorem d17_79 : decode (xcode 17) 79 = .ok (.iadd, 1) := by decide +kernel
theorem d17_80 : decode (xcode 17) 80 = .ok (.invokevirtual 63, 3) := by decide +kernel
theorem d17_83 : decode (xcode 17) 83 = .ok (.aload_n 0, 1) := by decide +kernel
theorem d17_84 : decode (xcode 17) 84 = .ok (.invokevirtual 81, 3) := by decide +kernel
theorem d17_87 : decode (xcode 17) 87 = .ok (.return_, 1) := by decide +kernel
noncomputable def f_RuleReader_readFact_b31 (cb_readTest : Int32 → xH → Option xH) (cb_readFact : Int32 → xH → Option xH) (v1 : Int32) (v2 : Int32) (h : xH) : Option xH :=
  if v1 < (10 : Int32) then (
  (f_Tape_goOn h).bind fun h13 =>
  if v2 = (0 : Int32) then (
  (cb_readTest (v1 + (1 : Int32)) h13).bind fun h17 =>
  (f_RuleReader_readClosing h17).bind fun h20 =>
  some (h20)) else (
  (cb_readFact (v1 + (1 : Int32)) h13).bind fun h23 =>
  (h23.2.2.1 3 1 0).bind fun i924 =>
  (f_Rule_add i924 (24 : Int32) h23).bind fun h27 =>
  some (h27))) else (
  (f_Tape_fail (2 : Int32) h).bind fun h30 =>
  some (h30))
set_option maxHeartbeats 4000000 in
set_option maxRecDepth 100000 in
theorem f_RuleReader_readFact_b31_ok {g : xG} {l : Launch} {d : Nat} {cb_readTest : Int32 → xH → Option xH} {cb_readFact : Int32 → xH → Option xH} {v1 : Int32} {v2 : Int32} {h : xH} {o : xH} {R : Option xV} {H' : xH} (hD : 5 ≤ d) (kb_readTest : ∀ (a : Int32) (h h1 : xH), cb_readTest a h = some h1 → xC g l (d - 1) 15 [xr 3 (some 0), xi a] h none h1) (kb_readFact : ∀ (a : Int32) (h h1 : xH), cb_readFact a h = some h1 → xC g l (d - 1) 17 [xr 3 (some 0), xi a] h none h1) (hf : f_RuleReader_readFact_b31 cb_readTest cb_readFact v1 v2 h = some o) (K0 : ∀ (h1 : xH), o = h1 → R = none ∧ H' = h1) : xEv g l d 17 31 [(0, xr 3 (some 0)), (1, xi v1), (2, xi v2)] [] h R H' := by
  unfold f_RuleReader_readFact_b31 at hf
  refine xs_iload_n d17_31 rfl ?_
  refine xs_bipush (v := 10) d17_32 (by decide) ?_
  rcases lk_if hf with ⟨hc10, hf⟩ | ⟨hc10, hf⟩
  · refine xs_icmp_lt (tgt := 46) d17_34 (by decide) (fun _ => ?_) (fun hn => absurd hc10 hn)
    refine xs_aload_n d17_46 rfl ?_
    refine xe_getc (j := 0) d17_47 ky17 fl58 fk3_0 rfl ?_
    obtain ⟨h13, hc12, hf⟩ := lk_b hf
    refine xe_callv0 (as := []) (st := []) (h2 := h13) (d2 := d - 1) d17_50 ky17 ml42 st68 (by decide) cn68 rfl na68 (Nat.le_of_ble_eq_true rfl) (by omega) (f_Tape_goOn_ok (by omega) hc12) ?_
    refine xs_iload_n d17_53 rfl ?_
    rcases lk_if hf with ⟨hc14, hf⟩ | ⟨hc14, hf⟩
    · refine xs_if_eq (tgt := 76) d17_54 (by decide) (fun _ => ?_) (fun hn => absurd hc14 hn)
      refine xs_aload_n d17_76 rfl ?_
      refine xs_iload_n d17_77 rfl ?_
      refine xs_iconst (v := 1) d17_78 (by decide) ?_
      refine xs_iadd d17_79 ?_
      obtain ⟨h17, hc16, hf⟩ := lk_b hf
      refine xe_callv0 (as := [xi (v1 + (1 : Int32))]) (st := []) (h2 := h17) (d2 := d - 1) d17_80 ky17 ml49 st15 (by decide) cn15 rfl na15 (Nat.le_of_ble_eq_true rfl) (by omega) (kb_readTest _ _ _ hc16) ?_
      refine xs_aload_n d17_83 rfl ?_
      obtain ⟨h20, hc19, hf⟩ := lk_b hf
      refine xe_callv0 (as := []) (st := []) (h2 := h20) (d2 := d - 1) d17_84 ky17 ml54 st18 (by decide) cn18 rfl na18 (Nat.le_of_ble_eq_true rfl) (by omega) (f_RuleReader_readClosing_ok (by omega) hc19) ?_
      obtain ⟨eR, eH⟩ := K0 _ (Option.some.inj hf).symm
      subst eR; subst eH
      exact xs_vret d17_87 rt17
    · refine xs_if_eq (tgt := 76) d17_54 (by decide) (fun hp => absurd hp hc14) (fun _ => ?_)
      refine xs_aload_n d17_57 rfl ?_
      refine xs_iload_n d17_58 rfl ?_
      refine xs_iconst (v := 1) d17_59 (by decide) ?_
      refine xs_iadd d17_60 ?_
      obtain ⟨h23, hc22, hf⟩ := lk_b hf
      refine xe_callv0 (as := [xi (v1 + (1 : Int32))]) (st := []) (h2 := h23) (d2 := d - 1) d17_61 ky17 ml51 st17 (by decide) cn17 rfl na17 (Nat.le_of_ble_eq_true rfl) (by omega) (kb_readFact _ _ _ hc22) ?_
      refine xs_aload_n d17_64 rfl ?_
      refine xe_getd d17_65 ky17 fl59 fk3_1 ?_
      refine xs_bipush (v := 24) d17_68 (by decide) ?_
      obtain ⟨i924, ei924, hf⟩ := lk_b hf
      rw [ei924]
      obtain ⟨h27, hc26, hf⟩ := lk_b hf
      refine xe_callv0 (as := [xi (24 : Int32)]) (st := []) (h2 := h27) (d2 := d - 1) d17_70 ky17 ml46 st9 (by decide) cn9 rfl na9 (Nat.le_of_ble_eq_true rfl) (by omega) (f_Rule_add_ok (by omega) hc26) ?_
      refine xs_goto (tgt := 87) d17_73 (by decide) ?_
      obtain ⟨eR, eH⟩ := K0 _ (Option.some.inj hf).symm
      subst eR; subst eH
      exact xs_vret d17_87 rt17
  · refine xs_icmp_lt (tgt := 46) d17_34 (by decide) (fun hp => absurd hp hc10) (fun _ => ?_)
    refine xs_aload_n d17_37 rfl ?_
    refine xe_getc (j := 0) d17_38 ky17 fl58 fk3_0 rfl ?_
    refine xs_iconst (v := 2) d17_41 (by decide) ?_
    obtain ⟨h30, hc29, hf⟩ := lk_b hf
    refine xe_callv0 (as := [xi (2 : Int32)]) (st := []) (h2 := h30) (d2 := d - 1) d17_42 ky17 ml41 st70 (by decide) cn70 rfl na70 (Nat.le_of_ble_eq_true rfl) (by omega) (f_Tape_fail_ok (by omega) hc29) ?_
    obtain ⟨eR, eH⟩ := K0 _ (Option.some.inj hf).symm
    subst eR; subst eH
    exact xs_vret d17_45 rt17
noncomputable def f_RuleReader_readFact_e (cb_readTest : Int32 → xH → Option xH) (cb_readFact : Int32 → xH → Option xH) (v1 : Int32) (h : xH) : Option xH :=
  (f_Tape_isWord (19 : Int32) h).bind fun r1 =>
  if r1 = (0 : Int32) then (
  (f_Tape_isSign (91 : Int32) h).bind fun r4 =>
  if r4 = (0 : Int32) then (
  (f_RuleReader_readComparison h).bind fun h9 =>
  some (h9)) else (
  f_RuleReader_readFact_b31 cb_readTest cb_readFact v1 r1 h)) else (
  f_RuleReader_readFact_b31 cb_readTest cb_readFact v1 r1 h)
set_option maxHeartbeats 4000000 in
set_option maxRecDepth 100000 in
theorem f_RuleReader_readFact_e_ok {g : xG} {l : Launch} {d : Nat} {cb_readTest : Int32 → xH → Option xH} {cb_readFact : Int32 → xH → Option xH} {v1 : Int32} {h : xH} {o : xH} {R : Option xV} {H' : xH} (hD : 5 ≤ d) (kb_readTest : ∀ (a : Int32) (h h1 : xH), cb_readTest a h = some h1 → xC g l (d - 1) 15 [xr 3 (some 0), xi a] h none h1) (kb_readFact : ∀ (a : Int32) (h h1 : xH), cb_readFact a h = some h1 → xC g l (d - 1) 17 [xr 3 (some 0), xi a] h none h1) (hf : f_RuleReader_readFact_e cb_readTest cb_readFact v1 h = some o) (K0 : ∀ (h1 : xH), o = h1 → R = none ∧ H' = h1) : xEv g l d 17 0 [(0, xr 3 (some 0)), (1, xi v1)] [] h R H' := by
  unfold f_RuleReader_readFact_e at hf
  refine xs_aload_n d17_0 rfl ?_
  refine xe_getc (j := 0) d17_1 ky17 fl58 fk3_0 rfl ?_
  refine xs_bipush (v := 19) d17_4 (by decide) ?_
  obtain ⟨r1, hc2, hf⟩ := lk_b hf
  refine xe_callv1 (as := [xi (19 : Int32)]) (st := []) (h2 := h) (d2 := d - 1) d17_6 ky17 ml40 st72 (by decide) cn72 rfl na72 (Nat.le_of_ble_eq_true rfl) (by omega) (f_Tape_isWord_ok (by omega) hc2) ?_
  refine xe_istore_n (v := r1) (ls2 := [(0, xr 3 (some 0)), (1, xi v1), (2, xi r1)]) d17_9 mx17 (by decide) rfl rfl ?_
  refine xs_iload_n d17_10 rfl ?_
  rcases lk_if hf with ⟨hc3, hf⟩ | ⟨hc3, hf⟩
  · refine xs_if_ne (tgt := 31) d17_11 (by decide) (fun _ => ?_) (fun hn => absurd hc3 hn)
    refine xs_aload_n d17_14 rfl ?_
    refine xe_getc (j := 0) d17_15 ky17 fl58 fk3_0 rfl ?_
    refine xs_bipush (v := 91) d17_18 (by decide) ?_
    obtain ⟨r4, hc5, hf⟩ := lk_b hf
    refine xe_callv1 (as := [xi (91 : Int32)]) (st := []) (h2 := h) (d2 := d - 1) d17_20 ky17 ml48 st71 (by decide) cn71 rfl na71 (Nat.le_of_ble_eq_true rfl) (by omega) (f_Tape_isSign_ok (by omega) hc5) ?_
    rcases lk_if hf with ⟨hc6, hf⟩ | ⟨hc6, hf⟩
    · refine xs_if_ne (tgt := 31) d17_23 (by decide) (fun _ => ?_) (fun hn => absurd hc6 hn)
      refine xs_aload_n d17_26 rfl ?_
      obtain ⟨h9, hc8, hf⟩ := lk_b hf
      refine xe_callv0 (as := []) (st := []) (h2 := h9) (d2 := d - 1) d17_27 ky17 ml52 st19 (by decide) cn19 rfl na19 (Nat.le_of_ble_eq_true rfl) (by omega) (f_RuleReader_readComparison_ok (by omega) hc8) ?_
      obtain ⟨eR, eH⟩ := K0 _ (Option.some.inj hf).symm
      subst eR; subst eH
      exact xs_vret d17_30 rt17
    · refine xs_if_ne (tgt := 31) d17_23 (by decide) (fun hp => absurd hp hc6) (fun _ => ?_)
      exact f_RuleReader_readFact_b31_ok hD kb_readTest kb_readFact hf K0
  · refine xs_if_ne (tgt := 31) d17_11 (by decide) (fun hp => absurd hp hc3) (fun _ => ?_)
    exact f_RuleReader_readFact_b31_ok hD kb_readTest kb_readFact hf K0
noncomputable def f_RuleReader_readFact (cb_readTest : Int32 → xH → Option xH) (cb_readFact : Int32 → xH → Option xH) (v1 : Int32) (h : xH) : Option xH := f_RuleReader_readFact_e cb_readTest cb_readFact v1 h
theorem f_RuleReader_readFact_ok {g : xG} {l : Launch} {d : Nat} {cb_readTest : Int32 → xH → Option xH} {cb_readFact : Int32 → xH → Option xH} {v1 : Int32} {h : xH} {h1 : xH} (hD : 5 ≤ d) (kb_readTest : ∀ (a : Int32) (h h1 : xH), cb_readTest a h = some h1 → xC g l (d - 1) 15 [xr 3 (some 0), xi a] h none h1) (kb_readFact : ∀ (a : Int32) (h h1 : xH), cb_readFact a h = some h1 → xC g l (d - 1) 17 [xr 3 (some 0), xi a] h none h1) (hf : f_RuleReader_readFact cb_readTest cb_readFact v1 h = some h1) : xC g l d 17 [xr 3 (some 0), xi v1] h none h1 :=
  xC_of (by decide) (Nat.le_of_ble_eq_true rfl) (f_RuleReader_readFact_e_ok hD kb_readTest kb_readFact hf (fun _ e => ⟨rfl, e⟩))
noncomputable def f_RuleReader_rF : Nat → Int32 → xH → Option xH
  | 0 => fun _ _ => none
  | n + 1 => f_RuleReader_readFact (f_RuleReader_readTest (f_RuleReader_readPart (f_RuleReader_rF n))) (f_RuleReader_rF n)
theorem f_RuleReader_rF_ok {g : xG} {l : Launch} : ∀ (n d : Nat) (a : Int32) (h h1 : xH), 3 * n + 8 ≤ d → f_RuleReader_rF n a h = some h1 → xC g l d 17 [xr 3 (some 0), xi a] h none h1
  | 0, _, _, _, _, _, e => by cases e
  | n + 1, d, a, h, h1, hd, e => f_RuleReader_readFact_ok (by omega) (fun a h h1 e => f_RuleReader_readTest_ok (by omega) (fun a h h1 e => f_RuleReader_readPart_ok (by omega) (fun a h h1 e => f_RuleReader_rF_ok n _ a h h1 (by omega) e) e) e) (fun a h h1 e => f_RuleReader_rF_ok n _ a h h1 (by omega) e) e
noncomputable def f_RuleReader_rT (v1 : Int32) (h : xH) : Option xH := f_RuleReader_readTest (f_RuleReader_readPart (f_RuleReader_rF 14)) v1 h
theorem f_RuleReader_rT_ok {g : xG} {l : Launch} {d : Nat} {v1 : Int32} {h h1 : xH} (hD : 52 ≤ d) (hf : f_RuleReader_rT v1 h = some h1) : xC g l d 15 [xr 3 (some 0), xi v1] h none h1 :=
  f_RuleReader_readTest_ok (by omega) (fun a h h1 e => f_RuleReader_readPart_ok (by omega) (fun a h h1 e => f_RuleReader_rF_ok 14 _ a h h1 (by omega) e) e) hf
theorem d14_0 : decode (xcode 14) 0 = .ok (.aload_n 0, 1) := by decide +kernel
theorem d14_1 : decode (xcode 14) 1 = .ok (.getfield 9, 3) := by decide +kernel
theorem d14_4 : decode (xcode 14) 4 = .ok (.bipush 15, 2) := by decide +kernel
theorem d14_6 : decode (xcode 14) 6 = .ok (.invokevirtual 46, 3) := by decide +kernel
theorem d14_9 : decode (xcode 14) 9 = .ok (.ifCond .ne 12, 3) := by decide +kernel
theorem d14_12 : decode (xcode 14) 12 = .ok (.aload_n 0, 1) := by decide +kernel
theorem d14_13 : decode (xcode 14) 13 = .ok (.getfield 9, 3) := by decide +kernel
theorem d14_16 : decode (xcode 14) 16 = .ok (.iconst 0, 1) := by decide +kernel
theorem d14_17 : decode (xcode 14) 17 = .ok (.invokevirtual 50, 3) := by decide +kernel
theorem d14_20 : decode (xcode 14) 20 = .ok (.return_, 1) := by decide +kernel
theorem d14_21 : decode (xcode 14) 21 = .ok (.aload_n 0, 1) := by decide +kernel
theorem d14_22 : decode (xcode 14) 22 = .ok (.getfield 24, 3) := by decide +kernel
theorem d14_25 : decode (xcode 14) 25 = .ok (.bipush 12, 2) := by decide +kernel
theorem d14_27 : decode (xcode 14) 27 = .ok (.if_icmp .lt 12, 3) := by decide +kernel
theorem d14_30 : decode (xcode 14) 30 = .ok (.aload_n 0, 1) := by decide +kernel
theorem d14_31 : decode (xcode 14) 31 = .ok (.getfield 9, 3) := by decide +kernel
theorem d14_34 : decode (xcode 14) 34 = .ok (.iconst 4, 1) := by decide +kernel
theorem d14_35 : decode (xcode 14) 35 = .ok (.invokevirtual 50, 3) := by decide +kernel
theorem d14_38 : decode (xcode 14) 38 = .ok (.return_, 1) := by decide +kernel
theorem d14_39 : decode (xcode 14) 39 = .ok (.aload_n 0, 1) := by decide +kernel
theorem d14_40 : decode (xcode 14) 40 = .ok (.dup, 1) := by decide +kernel
theorem d14_41 : decode (xcode 14) 41 = .ok (.getfield 24, 3) := by decide +kernel
theorem d14_44 : decode (xcode 14) 44 = .ok (.iconst 1, 1) := by decide +kernel
theorem d14_45 : decode (xcode 14) 45 = .ok (.iadd, 1) := by decide +kernel
theorem d14_46 : decode (xcode 14) 46 = .ok (.putfield 24, 3) := by decide +kernel
theorem d14_49 : decode (xcode 14) 49 = .ok (.aload_n 0, 1) := by decide +kernel
theorem d14_50 : decode (xcode 14) 50 = .ok (.getfield 9, 3) := by decide +kernel
theorem d14_53 : decode (xcode 14) 53 = .ok (.invokevirtual 54, 3) := by decide +kernel
theorem d14_56 : decode (xcode 14) 56 = .ok (.aload_n 0, 1) := by decide +kernel
theorem d14_57 : decode (xcode 14) 57 = .ok (.invokevirtual 57, 3) := by decide +kernel
theorem d14_60 : decode (xcode 14) 60 = .ok (.aload_n 0, 1) := by decide +kernel
theorem d14_61 : decode (xcode 14) 61 = .ok (.getfield 9, 3) := by decide +kernel
theorem d14_64 : decode (xcode 14) 64 = .ok (.invokevirtual 60, 3) := by decide +kernel
theorem d14_67 : decode (xcode 14) 67 = .ok (.ifCond .eq 39, 3) := by decide +kernel
theorem d14_70 : decode (xcode 14) 70 = .ok (.aload_n 0, 1) := by decide +kernel
theorem d14_71 : decode (xcode 14) 71 = .ok (.getfield 9, 3) := by decide +kernel
theorem d14_74 : decode (xcode 14) 74 = .ok (.bipush 16, 2) := by decide +kernel
theorem d14_76 : decode (xcode 14) 76 = .ok (.invokevirtual 46, 3) := by decide +kernel
theorem d14_79 : decode (xcode 14) 79 = .ok (.ifCond .eq 27, 3) := by decide +kernel
theorem d14_82 : decode (xcode 14) 82 = .ok (.aload_n 0, 1) := by decide +kernel
theorem d14_83 : decode (xcode 14) 83 = .ok (.getfield 9, 3) := by decide +kernel
theorem d14_86 : decode (xcode 14) 86 = .ok (.invokevirtual 54, 3) := by decide +kernel
theorem d14_89 : decode (xcode 14) 89 = .ok (.aload_n 0, 1) := by decide +kernel
theorem d14_90 : decode (xcode 14) 90 = .ok (.iconst 0, 1) := by decide +kernel
theorem d14_91 : decode (xcode 14) 91 = .ok (.invokevirtual 63, 3) := by decide +kernel
theorem d14_94 : decode (xcode 14) 94 = .ok (.aload_n 0, 1) := by decide +kernel
theorem d14_95 : decode (xcode 14) 95 = .ok (.getfield 15, 3) := by decide +kernel
theorem d14_98 : decode (xcode 14) 98 = .ok (.bipush 25, 2) := by decide +kernel
theorem d14_100 : decode (xcode 14) 100 = .ok (.invokevirtual 66, 3) := by decide +kernel
theorem d14_103 : decode (xcode 14) 103 = .ok (.goto 12, 3) := by decide +kernel
theorem d14_106 : decode (xcode 14) 106 = .ok (.aload_n 0, 1) := by decide +kernel
theorem d14_107 : decode (xcode 14) 107 = .ok (.getfield 15, 3) := by decide +kernel
theorem d14_110 : decode (xcode 14) 110 = .ok (.bipush 26, 2) := by decide +kernel
theorem d14_112 : decode (xcode 14) 112 = .ok (.invokevirtual 66, 3) := by decide +kernel
theorem d14_115 : decode (xcode 14) 115 = .ok (.return_, 1) := by decide +kernel
noncomputable def f_RuleReader_readClause_b106 (h : xH) : Option xH :=
  (h.2.2.1 3 1 0).bind fun i918 =>
  (f_Rule_add i918 (26 : Int32) h).bind fun h21 =>
  some (h21)
set_option maxHeartbeats 4000000 in
set_option maxRecDepth 100000 in
theorem f_RuleReader_readClause_b106_ok {g : xG} {l : Launch} {d : Nat} {h : xH} {o : xH} {R : Option xV} {H' : xH} (hD : 53 ≤ d) (hf : f_RuleReader_readClause_b106 h = some o) (K0 : ∀ (h1 : xH), o = h1 → R = none ∧ H' = h1) : xEv g l d 14 106 [(0, xr 3 (some 0))] [] h R H' := by
  unfold f_RuleReader_readClause_b106 at hf
  refine xs_aload_n d14_106 rfl ?_
  refine xe_getd d14_107 ky14 fl59 fk3_1 ?_
  refine xs_bipush (v := 26) d14_110 (by decide) ?_
  obtain ⟨i918, ei918, hf⟩ := lk_b hf
  rw [ei918]
  obtain ⟨h21, hc20, hf⟩ := lk_b hf
  refine xe_callv0 (as := [xi (26 : Int32)]) (st := []) (h2 := h21) (d2 := d - 1) d14_112 ky14 ml46 st9 (by decide) cn9 rfl na9 (Nat.le_of_ble_eq_true rfl) (by omega) (f_Rule_add_ok (by omega) hc20) ?_
  obtain ⟨eR, eH⟩ := K0 _ (Option.some.inj hf).symm
  subst eR; subst eH
  exact xs_vret d14_115 rt14
noncomputable def f_RuleReader_readClause_e (h : xH) : Option xH :=
  (f_Tape_isWord (15 : Int32) h).bind fun r1 =>
  if r1 = (0 : Int32) then (
  (f_Tape_fail (0 : Int32) h).bind fun h6 =>
  some (h6)) else (
  if (h.1 3 2 0) < (12 : Int32) then (
  xlet (xsI h 3 2 0 ((h.1 3 2 0) + (1 : Int32))) fun h8 =>
  (f_Tape_goOn h8).bind fun h11 =>
  (f_RuleReader_readSum h11).bind fun h14 =>
  (f_Tape_isWell h14).bind fun r15 =>
  if r15 = (0 : Int32) then (
  f_RuleReader_readClause_b106 h14) else (
  (f_Tape_isWord (16 : Int32) h14).bind fun r22 =>
  if r22 = (0 : Int32) then (
  f_RuleReader_readClause_b106 h14) else (
  (f_Tape_goOn h14).bind fun h27 =>
  (f_RuleReader_rT (0 : Int32) h27).bind fun h30 =>
  (h30.2.2.1 3 1 0).bind fun i931 =>
  (f_Rule_add i931 (25 : Int32) h30).bind fun h34 =>
  some (h34)))) else (
  (f_Tape_fail (4 : Int32) h).bind fun h37 =>
  some (h37)))
set_option maxHeartbeats 4000000 in
set_option maxRecDepth 100000 in
theorem f_RuleReader_readClause_e_ok {g : xG} {l : Launch} {d : Nat} {h : xH} {o : xH} {R : Option xV} {H' : xH} (hD : 53 ≤ d) (hf : f_RuleReader_readClause_e h = some o) (K0 : ∀ (h1 : xH), o = h1 → R = none ∧ H' = h1) : xEv g l d 14 0 [(0, xr 3 (some 0))] [] h R H' := by
  unfold f_RuleReader_readClause_e at hf
  refine xs_aload_n d14_0 rfl ?_
  refine xe_getc (j := 0) d14_1 ky14 fl58 fk3_0 rfl ?_
  refine xs_bipush (v := 15) d14_4 (by decide) ?_
  obtain ⟨r1, hc2, hf⟩ := lk_b hf
  refine xe_callv1 (as := [xi (15 : Int32)]) (st := []) (h2 := h) (d2 := d - 1) d14_6 ky14 ml40 st72 (by decide) cn72 rfl na72 (Nat.le_of_ble_eq_true rfl) (by omega) (f_Tape_isWord_ok (by omega) hc2) ?_
  rcases lk_if hf with ⟨hc3, hf⟩ | ⟨hc3, hf⟩
  · refine xs_if_ne (tgt := 21) d14_9 (by decide) (fun _ => ?_) (fun hn => absurd hc3 hn)
    refine xs_aload_n d14_12 rfl ?_
    refine xe_getc (j := 0) d14_13 ky14 fl58 fk3_0 rfl ?_
    refine xs_iconst (v := 0) d14_16 (by decide) ?_
    obtain ⟨h6, hc5, hf⟩ := lk_b hf
    refine xe_callv0 (as := [xi (0 : Int32)]) (st := []) (h2 := h6) (d2 := d - 1) d14_17 ky14 ml41 st70 (by decide) cn70 rfl na70 (Nat.le_of_ble_eq_true rfl) (by omega) (f_Tape_fail_ok (by omega) hc5) ?_
    obtain ⟨eR, eH⟩ := K0 _ (Option.some.inj hf).symm
    subst eR; subst eH
    exact xs_vret d14_20 rt14
  · refine xs_if_ne (tgt := 21) d14_9 (by decide) (fun hp => absurd hp hc3) (fun _ => ?_)
    refine xs_aload_n d14_21 rfl ?_
    refine xe_geti d14_22 ky14 fl60 fk3_2 ?_
    refine xs_bipush (v := 12) d14_25 (by decide) ?_
    rcases lk_if hf with ⟨hc7, hf⟩ | ⟨hc7, hf⟩
    · refine xs_icmp_lt (tgt := 39) d14_27 (by decide) (fun _ => ?_) (fun hn => absurd hc7 hn)
      refine xs_aload_n d14_39 rfl ?_
      refine xs_dup d14_40 rfl ?_
      refine xe_geti d14_41 ky14 fl60 fk3_2 ?_
      refine xs_iconst (v := 1) d14_44 (by decide) ?_
      refine xs_iadd d14_45 ?_
      obtain ⟨h8, eh8, hf⟩ := lk_let hf
      refine xe_puti d14_46 ky14 fl60 fk3_2 ft3_2 eh8 ?_
      refine xs_aload_n d14_49 rfl ?_
      refine xe_getc (j := 0) d14_50 ky14 fl58 fk3_0 rfl ?_
      obtain ⟨h11, hc10, hf⟩ := lk_b hf
      refine xe_callv0 (as := []) (st := []) (h2 := h11) (d2 := d - 1) d14_53 ky14 ml42 st68 (by decide) cn68 rfl na68 (Nat.le_of_ble_eq_true rfl) (by omega) (f_Tape_goOn_ok (by omega) hc10) ?_
      refine xs_aload_n d14_56 rfl ?_
      obtain ⟨h14, hc13, hf⟩ := lk_b hf
      refine xe_callv0 (as := []) (st := []) (h2 := h14) (d2 := d - 1) d14_57 ky14 ml43 st21 (by decide) cn21 rfl na21 (Nat.le_of_ble_eq_true rfl) (by omega) (f_RuleReader_readSum_ok (by omega) hc13) ?_
      refine xs_aload_n d14_60 rfl ?_
      refine xe_getc (j := 0) d14_61 ky14 fl58 fk3_0 rfl ?_
      obtain ⟨r15, hc16, hf⟩ := lk_b hf
      refine xe_callv1 (as := []) (st := []) (h2 := h14) (d2 := d - 1) d14_64 ky14 ml47 st69 (by decide) cn69 rfl na69 (Nat.le_of_ble_eq_true rfl) (by omega) (f_Tape_isWell_ok (by omega) hc16) ?_
      rcases lk_if hf with ⟨hc17, hf⟩ | ⟨hc17, hf⟩
      · refine xs_if_eq (tgt := 106) d14_67 (by decide) (fun _ => ?_) (fun hn => absurd hc17 hn)
        exact f_RuleReader_readClause_b106_ok hD hf K0
      · refine xs_if_eq (tgt := 106) d14_67 (by decide) (fun hp => absurd hp hc17) (fun _ => ?_)
        refine xs_aload_n d14_70 rfl ?_
        refine xe_getc (j := 0) d14_71 ky14 fl58 fk3_0 rfl ?_
        refine xs_bipush (v := 16) d14_74 (by decide) ?_
        obtain ⟨r22, hc23, hf⟩ := lk_b hf
        refine xe_callv1 (as := [xi (16 : Int32)]) (st := []) (h2 := h14) (d2 := d - 1) d14_76 ky14 ml40 st72 (by decide) cn72 rfl na72 (Nat.le_of_ble_eq_true rfl) (by omega) (f_Tape_isWord_ok (by omega) hc23) ?_
        rcases lk_if hf with ⟨hc24, hf⟩ | ⟨hc24, hf⟩
        · refine xs_if_eq (tgt := 106) d14_79 (by decide) (fun _ => ?_) (fun hn => absurd hc24 hn)
          exact f_RuleReader_readClause_b106_ok hD hf K0
        · refine xs_if_eq (tgt := 106) d14_79 (by decide) (fun hp => absurd hp hc24) (fun _ => ?_)
          refine xs_aload_n d14_82 rfl ?_
          refine xe_getc (j := 0) d14_83 ky14 fl58 fk3_0 rfl ?_
          obtain ⟨h27, hc26, hf⟩ := lk_b hf
          refine xe_callv0 (as := []) (st := []) (h2 := h27) (d2 := d - 1) d14_86 ky14 ml42 st68 (by decide) cn68 rfl na68 (Nat.le_of_ble_eq_true rfl) (by omega) (f_Tape_goOn_ok (by omega) hc26) ?_
          refine xs_aload_n d14_89 rfl ?_
          refine xs_iconst (v := 0) d14_90 (by decide) ?_
          obtain ⟨h30, hc29, hf⟩ := lk_b hf
          refine xe_callv0 (as := [xi (0 : Int32)]) (st := []) (h2 := h30) (d2 := d - 1) d14_91 ky14 ml49 st15 (by decide) cn15 rfl na15 (Nat.le_of_ble_eq_true rfl) (by omega) (f_RuleReader_rT_ok (by omega) hc29) ?_
          refine xs_aload_n d14_94 rfl ?_
          refine xe_getd d14_95 ky14 fl59 fk3_1 ?_
          refine xs_bipush (v := 25) d14_98 (by decide) ?_
          obtain ⟨i931, ei931, hf⟩ := lk_b hf
          rw [ei931]
          obtain ⟨h34, hc33, hf⟩ := lk_b hf
          refine xe_callv0 (as := [xi (25 : Int32)]) (st := []) (h2 := h34) (d2 := d - 1) d14_100 ky14 ml46 st9 (by decide) cn9 rfl na9 (Nat.le_of_ble_eq_true rfl) (by omega) (f_Rule_add_ok (by omega) hc33) ?_
          refine xs_goto (tgt := 115) d14_103 (by decide) ?_
          obtain ⟨eR, eH⟩ := K0 _ (Option.some.inj hf).symm
          subst eR; subst eH
          exact xs_vret d14_115 rt14
    · refine xs_icmp_lt (tgt := 39) d14_27 (by decide) (fun hp => absurd hp hc7) (fun _ => ?_)
      refine xs_aload_n d14_30 rfl ?_
      refine xe_getc (j := 0) d14_31 ky14 fl58 fk3_0 rfl ?_
      refine xs_iconst (v := 4) d14_34 (by decide) ?_
      obtain ⟨h37, hc36, hf⟩ := lk_b hf
      refine xe_callv0 (as := [xi (4 : Int32)]) (st := []) (h2 := h37) (d2 := d - 1) d14_35 ky14 ml41 st70 (by decide) cn70 rfl na70 (Nat.le_of_ble_eq_true rfl) (by omega) (f_Tape_fail_ok (by omega) hc36) ?_
      obtain ⟨eR, eH⟩ := K0 _ (Option.some.inj hf).symm
      subst eR; subst eH
      exact xs_vret d14_38 rt14
noncomputable def f_RuleReader_readClause (h : xH) : Option xH := f_RuleReader_readClause_e h
theorem f_RuleReader_readClause_ok {g : xG} {l : Launch} {d : Nat} {h : xH} {h1 : xH} (hD : 53 ≤ d) (hf : f_RuleReader_readClause h = some h1) : xC g l d 14 [xr 3 (some 0)] h none h1 :=
  xC_of (by decide) (Nat.le_of_ble_eq_true rfl) (f_RuleReader_readClause_e_ok hD hf (fun _ e => ⟨rfl, e⟩))
theorem d75_0 : decode (xcode 75) 0 = .ok (.aload_n 0, 1) := by decide +kernel
theorem d75_1 : decode (xcode 75) 1 = .ok (.aload_n 1, 1) := by decide +kernel
theorem d75_2 : decode (xcode 75) 2 = .ok (.getfield 27, 3) := by decide +kernel
theorem d75_5 : decode (xcode 75) 5 = .ok (.putfield 27, 3) := by decide +kernel
theorem d75_8 : decode (xcode 75) 8 = .ok (.aload_n 0, 1) := by decide +kernel
theorem d75_9 : decode (xcode 75) 9 = .ok (.aload_n 1, 1) := by decide +kernel
theorem d75_10 : decode (xcode 75) 10 = .ok (.getfield 31, 3) := by decide +kernel
theorem d75_13 : decode (xcode 75) 13 = .ok (.putfield 31, 3) := by decide +kernel
theorem d75_16 : decode (xcode 75) 16 = .ok (.aload_n 0, 1) := by decide +kernel
theorem d75_17 : decode (xcode 75) 17 = .ok (.aload_n 1, 1) := by decide +kernel
theorem d75_18 : decode (xcode 75) 18 = .ok (.getfield 35, 3) := by decide +kernel
theorem d75_21 : decode (xcode 75) 21 = .ok (.putfield 35, 3) := by decide +kernel
theorem d75_24 : decode (xcode 75) 24 = .ok (.aload_n 0, 1) := by decide +kernel
theorem d75_25 : decode (xcode 75) 25 = .ok (.aload_n 1, 1) := by decide +kernel
theorem d75_26 : decode (xcode 75) 26 = .ok (.getfield 38, 3) := by decide +kernel
theorem d75_29 : decode (xcode 75) 29 = .ok (.putfield 38, 3) := by decide +kernel
theorem d75_32 : decode (xcode 75) 32 = .ok (.aload_n 0, 1) := by decide +kernel
theorem d75_33 : decode (xcode 75) 33 = .ok (.aload_n 1, 1) := by decide +kernel
theorem d75_34 : decode (xcode 75) 34 = .ok (.getfield 41, 3) := by decide +kernel
theorem d75_37 : decode (xcode 75) 37 = .ok (.putfield 41, 3) := by decide +kernel
theorem d75_40 : decode (xcode 75) 40 = .ok (.aload_n 1, 1) := by decide +kernel
theorem d75_41 : decode (xcode 75) 41 = .ok (.getfield 9, 3) := by decide +kernel
theorem d75_44 : decode (xcode 75) 44 = .ok (.iconst 0, 1) := by decide +kernel
theorem d75_45 : decode (xcode 75) 45 = .ok (.aload_n 0, 1) := by decide +kernel
theorem d75_46 : decode (xcode 75) 46 = .ok (.getfield 9, 3) := by decide +kernel
theorem d75_49 : decode (xcode 75) 49 = .ok (.iconst 0, 1) := by decide +kernel
theorem d75_50 : decode (xcode 75) 50 = .ok (.bipush 8, 2) := by decide +kernel
theorem d75_52 : decode (xcode 75) 52 = .ok (.invokestatic 44, 3) := by decide +kernel
theorem d75_55 : decode (xcode 75) 55 = .ok (.aload_n 1, 1) := by decide +kernel
theorem d75_56 : decode (xcode 75) 56 = .ok (.getfield 15, 3) := by decide +kernel
theorem d75_59 : decode (xcode 75) 59 = .ok (.iconst 0, 1) := by decide +kernel
theorem d75_60 : decode (xcode 75) 60 = .ok (.aload_n 0, 1) := by decide +kernel
theorem d75_61 : decode (xcode 75) 61 = .ok (.getfield 15, 3) := by decide +kernel
theorem d75_64 : decode (xcode 75) 64 = .ok (.iconst 0, 1) := by decide +kernel
theorem d75_65 : decode (xcode 75) 65 = .ok (.bipush 8, 2) := by decide +kernel
theorem d75_67 : decode (xcode 75) 67 = .ok (.invokestatic 44, 3) := by decide +kernel
theorem d75_70 : decode (xcode 75) 70 = .ok (.aload_n 1, 1) := by decide +kernel
theorem d75_71 : decode (xcode 75) 71 = .ok (.getfield 18, 3) := by decide +kernel
theorem d75_74 : decode (xcode 75) 74 = .ok (.iconst 0, 1) := by decide +kernel
theorem d75_75 : decode (xcode 75) 75 = .ok (.aload_n 0, 1) := by decide +kernel
theorem d75_76 : decode (xcode 75) 76 = .ok (.getfield 18, 3) := by decide +kernel
theorem d75_79 : decode (xcode 75) 79 = .ok (.iconst 0, 1) := by decide +kernel
theorem d75_80 : decode (xcode 75) 80 = .ok (.bipush 8, 2) := by decide +kernel
theorem d75_82 : decode (xcode 75) 82 = .ok (.invokestatic 44, 3) := by decide +kernel
theorem d75_85 : decode (xcode 75) 85 = .ok (.aload_n 1, 1) := by decide +kernel
theorem d75_86 : decode (xcode 75) 86 = .ok (.getfield 21, 3) := by decide +kernel
theorem d75_89 : decode (xcode 75) 89 = .ok (.iconst 0, 1) := by decide +kernel
theorem d75_90 : decode (xcode 75) 90 = .ok (.aload_n 0, 1) := by decide +kernel
theorem d75_91 : decode (xcode 75) 91 = .ok (.getfield 21, 3) := by decide +kernel
theorem d75_94 : decode (xcode 75) 94 = .ok (.iconst 0, 1) := by decide +kernel
theorem d75_95 : decode (xcode 75) 95 = .ok (.bipush 8, 2) := by decide +kernel
theorem d75_97 : decode (xcode 75) 97 = .ok (.invokestatic 44, 3) := by decide +kernel
theorem d75_100 : decode (xcode 75) 100 = .ok (.aload_n 1, 1) := by decide +kernel
theorem d75_101 : decode (xcode 75) 101 = .ok (.getfield 24, 3) := by decide +kernel
theorem d75_104 : decode (xcode 75) 104 = .ok (.iconst 0, 1) := by decide +kernel
theorem d75_105 : decode (xcode 75) 105 = .ok (.aload_n 0, 1) := by decide +kernel
theorem d75_106 : decode (xcode 75) 106 = .ok (.getfield 24, 3) := by decide +kernel
theorem d75_109 : decode (xcode 75) 109 = .ok (.iconst 0, 1) := by decide +kernel
theorem d75_110 : decode (xcode 75) 110 = .ok (.iconst 4, 1) := by decide +kernel
theorem d75_111 : decode (xcode 75) 111 = .ok (.invokestatic 44, 3) := by decide +kernel
theorem d75_114 : decode (xcode 75) 114 = .ok (.return_, 1) := by decide +kernel
noncomputable def f_Told_copyFrom_e (i0 : Nat) (i1 : Nat) (h : xH) : Option xH :=
  if (h.1 8 0 i1) = 0 ∨ (h.1 8 0 i1) = 1 then (
  xlet (xsI h 8 0 i0 (h.1 8 0 i1)) fun h1 =>
  xlet (xsI h1 8 1 i0 (h1.1 8 1 i1)) fun h3 =>
  xlet (xsI h3 8 2 i0 (h3.1 8 2 i1)) fun h4 =>
  xlet (xsI h4 8 3 i0 (h4.1 8 3 i1)) fun h5 =>
  xlet (xsI h5 8 4 i0 (h5.1 8 4 i1)) fun h6 =>
  if ¬ (0 : Int32) < 0 ∧ ¬ (0 : Int32) < 0 ∧ ¬ (8 : Int32) < 0 ∧ ((0 : Int32)).toNatClampNeg + ((8 : Int32)).toNatClampNeg ≤ 8 ∧ ((0 : Int32)).toNatClampNeg + ((8 : Int32)).toNatClampNeg ≤ 8 then (
  xlet (xsA h6 37 i0 (va_cpy (h6.2.2.2.1 37 i1) (h6.2.2.2.1 37 i0) ((0 : Int32)).toNatClampNeg ((0 : Int32)).toNatClampNeg ((8 : Int32)).toNatClampNeg)) fun h8 =>
  if ¬ (0 : Int32) < 0 ∧ ¬ (0 : Int32) < 0 ∧ ¬ (8 : Int32) < 0 ∧ ((0 : Int32)).toNatClampNeg + ((8 : Int32)).toNatClampNeg ≤ 8 ∧ ((0 : Int32)).toNatClampNeg + ((8 : Int32)).toNatClampNeg ≤ 8 then (
  xlet (xsA h8 38 i0 (va_cpy (h8.2.2.2.1 38 i1) (h8.2.2.2.1 38 i0) ((0 : Int32)).toNatClampNeg ((0 : Int32)).toNatClampNeg ((8 : Int32)).toNatClampNeg)) fun h10 =>
  if ¬ (0 : Int32) < 0 ∧ ¬ (0 : Int32) < 0 ∧ ¬ (8 : Int32) < 0 ∧ ((0 : Int32)).toNatClampNeg + ((8 : Int32)).toNatClampNeg ≤ 8 ∧ ((0 : Int32)).toNatClampNeg + ((8 : Int32)).toNatClampNeg ≤ 8 then (
  xlet (xsA h10 39 i0 (va_cpy (h10.2.2.2.1 39 i1) (h10.2.2.2.1 39 i0) ((0 : Int32)).toNatClampNeg ((0 : Int32)).toNatClampNeg ((8 : Int32)).toNatClampNeg)) fun h12 =>
  if ¬ (0 : Int32) < 0 ∧ ¬ (0 : Int32) < 0 ∧ ¬ (8 : Int32) < 0 ∧ ((0 : Int32)).toNatClampNeg + ((8 : Int32)).toNatClampNeg ≤ 8 ∧ ((0 : Int32)).toNatClampNeg + ((8 : Int32)).toNatClampNeg ≤ 8 then (
  xlet (xsA h12 40 i0 (va_cpy (h12.2.2.2.1 40 i1) (h12.2.2.2.1 40 i0) ((0 : Int32)).toNatClampNeg ((0 : Int32)).toNatClampNeg ((8 : Int32)).toNatClampNeg)) fun h14 =>
  if ¬ (0 : Int32) < 0 ∧ ¬ (0 : Int32) < 0 ∧ ¬ (4 : Int32) < 0 ∧ ((0 : Int32)).toNatClampNeg + ((4 : Int32)).toNatClampNeg ≤ 4 ∧ ((0 : Int32)).toNatClampNeg + ((4 : Int32)).toNatClampNeg ≤ 4 then (
  xlet (xsA h14 41 i0 (va_cpy (h14.2.2.2.1 41 i1) (h14.2.2.2.1 41 i0) ((0 : Int32)).toNatClampNeg ((0 : Int32)).toNatClampNeg ((4 : Int32)).toNatClampNeg)) fun h16 =>
  some (h16)) else none) else none) else none) else none) else none) else none
set_option maxHeartbeats 4000000 in
set_option maxRecDepth 100000 in
theorem f_Told_copyFrom_e_ok {g : xG} {l : Launch} {d : Nat} {i0 : Nat} {i1 : Nat} {h : xH} {o : xH} {R : Option xV} {H' : xH} (hD : 1 ≤ d) (hf : f_Told_copyFrom_e i0 i1 h = some o) (K0 : ∀ (h1 : xH), o = h1 → R = none ∧ H' = h1) : xEv g l d 75 0 [(0, xr 8 (some i0)), (1, xr 8 (some i1))] [] h R H' := by
  unfold f_Told_copyFrom_e at hf
  refine xs_aload_n d75_0 rfl ?_
  refine xs_aload_n d75_1 rfl ?_
  refine xe_geti d75_2 ky75 fl17 fk8_0 ?_
  obtain ⟨hz2, hf⟩ := lk_g hf
  obtain ⟨h1, eh1, hf⟩ := lk_let hf
  refine xe_putz d75_5 ky75 fl17 fk8_0 ft8_0 hz2 eh1 ?_
  refine xs_aload_n d75_8 rfl ?_
  refine xs_aload_n d75_9 rfl ?_
  refine xe_geti d75_10 ky75 fl20 fk8_1 ?_
  obtain ⟨h3, eh3, hf⟩ := lk_let hf
  refine xe_puti d75_13 ky75 fl20 fk8_1 ft8_1 eh3 ?_
  refine xs_aload_n d75_16 rfl ?_
  refine xs_aload_n d75_17 rfl ?_
  refine xe_geti d75_18 ky75 fl25 fk8_2 ?_
  obtain ⟨h4, eh4, hf⟩ := lk_let hf
  refine xe_puti d75_21 ky75 fl25 fk8_2 ft8_2 eh4 ?_
  refine xs_aload_n d75_24 rfl ?_
  refine xs_aload_n d75_25 rfl ?_
  refine xe_geti d75_26 ky75 fl30 fk8_3 ?_
  obtain ⟨h5, eh5, hf⟩ := lk_let hf
  refine xe_puti d75_29 ky75 fl30 fk8_3 ft8_3 eh5 ?_
  refine xs_aload_n d75_32 rfl ?_
  refine xs_aload_n d75_33 rfl ?_
  refine xe_geti d75_34 ky75 fl33 fk8_4 ?_
  obtain ⟨h6, eh6, hf⟩ := lk_let hf
  refine xe_puti d75_37 ky75 fl33 fk8_4 ft8_4 eh6 ?_
  refine xs_aload_n d75_40 rfl ?_
  refine xe_getc (j := i1) d75_41 ky75 fl37 fk8_5 (by omega) ?_
  refine xs_iconst (v := 0) d75_44 (by decide) ?_
  refine xs_aload_n d75_45 rfl ?_
  refine xe_getc (j := i0) d75_46 ky75 fl37 fk8_5 (by omega) ?_
  refine xs_iconst (v := 0) d75_49 (by decide) ?_
  refine xs_bipush (v := 8) d75_50 (by decide) ?_
  obtain ⟨hin7, hf⟩ := lk_g hf
  obtain ⟨h8, eh8, hf⟩ := lk_let hf
  refine xe_copy d75_52 ky75 cp8_44 cpw (by decide) ak37 (by decide) ak37 hin7 (Nat.le_of_ble_eq_true rfl) (by omega) eh8 ?_
  refine xs_aload_n d75_55 rfl ?_
  refine xe_getc (j := i1) d75_56 ky75 fl40 fk8_6 (by omega) ?_
  refine xs_iconst (v := 0) d75_59 (by decide) ?_
  refine xs_aload_n d75_60 rfl ?_
  refine xe_getc (j := i0) d75_61 ky75 fl40 fk8_6 (by omega) ?_
  refine xs_iconst (v := 0) d75_64 (by decide) ?_
  refine xs_bipush (v := 8) d75_65 (by decide) ?_
  obtain ⟨hin9, hf⟩ := lk_g hf
  obtain ⟨h10, eh10, hf⟩ := lk_let hf
  refine xe_copy d75_67 ky75 cp8_44 cpw (by decide) ak38 (by decide) ak38 hin9 (Nat.le_of_ble_eq_true rfl) (by omega) eh10 ?_
  refine xs_aload_n d75_70 rfl ?_
  refine xe_getc (j := i1) d75_71 ky75 fl43 fk8_7 (by omega) ?_
  refine xs_iconst (v := 0) d75_74 (by decide) ?_
  refine xs_aload_n d75_75 rfl ?_
  refine xe_getc (j := i0) d75_76 ky75 fl43 fk8_7 (by omega) ?_
  refine xs_iconst (v := 0) d75_79 (by decide) ?_
  refine xs_bipush (v := 8) d75_80 (by decide) ?_
  obtain ⟨hin11, hf⟩ := lk_g hf
  obtain ⟨h12, eh12, hf⟩ := lk_let hf
  refine xe_copy d75_82 ky75 cp8_44 cpw (by decide) ak39 (by decide) ak39 hin11 (Nat.le_of_ble_eq_true rfl) (by omega) eh12 ?_
  refine xs_aload_n d75_85 rfl ?_
  refine xe_getc (j := i1) d75_86 ky75 fl48 fk8_8 (by omega) ?_
  refine xs_iconst (v := 0) d75_89 (by decide) ?_
  refine xs_aload_n d75_90 rfl ?_
  refine xe_getc (j := i0) d75_91 ky75 fl48 fk8_8 (by omega) ?_
  refine xs_iconst (v := 0) d75_94 (by decide) ?_
  refine xs_bipush (v := 8) d75_95 (by decide) ?_
  obtain ⟨hin13, hf⟩ := lk_g hf
  obtain ⟨h14, eh14, hf⟩ := lk_let hf
  refine xe_copy d75_97 ky75 cp8_44 cpw (by decide) ak40 (by decide) ak40 hin13 (Nat.le_of_ble_eq_true rfl) (by omega) eh14 ?_
  refine xs_aload_n d75_100 rfl ?_
  refine xe_getc (j := i1) d75_101 ky75 fl51 fk8_9 (by omega) ?_
  refine xs_iconst (v := 0) d75_104 (by decide) ?_
  refine xs_aload_n d75_105 rfl ?_
  refine xe_getc (j := i0) d75_106 ky75 fl51 fk8_9 (by omega) ?_
  refine xs_iconst (v := 0) d75_109 (by decide) ?_
  refine xs_iconst (v := 4) d75_110 (by decide) ?_
  obtain ⟨hin15, hf⟩ := lk_g hf
  obtain ⟨h16, eh16, hf⟩ := lk_let hf
  refine xe_copy d75_111 ky75 cp8_44 cpw (by decide) ak41 (by decide) ak41 hin15 (Nat.le_of_ble_eq_true rfl) (by omega) eh16 ?_
  obtain ⟨eR, eH⟩ := K0 _ (Option.some.inj hf).symm
  subst eR; subst eH
  exact xs_vret d75_114 rt75
noncomputable def f_Told_copyFrom (i0 : Nat) (i1 : Nat) (h : xH) : Option xH := f_Told_copyFrom_e i0 i1 h
theorem f_Told_copyFrom_ok {g : xG} {l : Launch} {d : Nat} {i0 : Nat} {i1 : Nat} {h : xH} {h1 : xH} (hD : 1 ≤ d) (hf : f_Told_copyFrom i0 i1 h = some h1) : xC g l d 75 [xr 8 (some i0), xr 8 (some i1)] h none h1 :=
  xC_of (by decide) (Nat.le_of_ble_eq_true rfl) (f_Told_copyFrom_e_ok hD hf (fun _ e => ⟨rfl, e⟩))
theorem d24_0 : decode (xcode 24) 0 = .ok (.aload_n 0, 1) := by decide +kernel
theorem d24_1 : decode (xcode 24) 1 = .ok (.getfield 12, 3) := by decide +kernel
theorem d24_4 : decode (xcode 24) 4 = .ok (.aload_n 1, 1) := by decide +kernel
theorem d24_5 : decode (xcode 24) 5 = .ok (.getfield 12, 3) := by decide +kernel
theorem d24_8 : decode (xcode 24) 8 = .ok (.invokevirtual 36, 3) := by decide +kernel
theorem d24_11 : decode (xcode 24) 11 = .ok (.aload_n 0, 1) := by decide +kernel
theorem d24_12 : decode (xcode 24) 12 = .ok (.getfield 21, 3) := by decide +kernel
theorem d24_15 : decode (xcode 24) 15 = .ok (.aload_n 1, 1) := by decide +kernel
theorem d24_16 : decode (xcode 24) 16 = .ok (.getfield 21, 3) := by decide +kernel
theorem d24_19 : decode (xcode 24) 19 = .ok (.invokevirtual 40, 3) := by decide +kernel
theorem d24_22 : decode (xcode 24) 22 = .ok (.aload_n 0, 1) := by decide +kernel
theorem d24_23 : decode (xcode 24) 23 = .ok (.aload_n 1, 1) := by decide +kernel
theorem d24_24 : decode (xcode 24) 24 = .ok (.getfield 25, 3) := by decide +kernel
theorem d24_27 : decode (xcode 24) 27 = .ok (.putfield 25, 3) := by decide +kernel
theorem d24_30 : decode (xcode 24) 30 = .ok (.aload_n 0, 1) := by decide +kernel
theorem d24_31 : decode (xcode 24) 31 = .ok (.aload_n 1, 1) := by decide +kernel
theorem d24_32 : decode (xcode 24) 32 = .ok (.getfield 43, 3) := by decide +kernel
theorem d24_35 : decode (xcode 24) 35 = .ok (.putfield 43, 3) := by decide +kernel
theorem d24_38 : decode (xcode 24) 38 = .ok (.aload_n 0, 1) := by decide +kernel
theorem d24_39 : decode (xcode 24) 39 = .ok (.aload_n 1, 1) := by decide +kernel
theorem d24_40 : decode (xcode 24) 40 = .ok (.getfield 46, 3) := by decide +kernel
theorem d24_43 : decode (xcode 24) 43 = .ok (.putfield 46, 3) := by decide +kernel
theorem d24_46 : decode (xcode 24) 46 = .ok (.aload_n 1, 1) := by decide +kernel
theorem d24_47 : decode (xcode 24) 47 = .ok (.getfield 29, 3) := by decide +kernel
theorem d24_50 : decode (xcode 24) 50 = .ok (.iconst 0, 1) := by decide +kernel
theorem d24_51 : decode (xcode 24) 51 = .ok (.aload_n 0, 1) := by decide +kernel
theorem d24_52 : decode (xcode 24) 52 = .ok (.getfield 29, 3) := by decide +kernel
theorem d24_55 : decode (xcode 24) 55 = .ok (.iconst 0, 1) := by decide +kernel
theorem d24_56 : decode (xcode 24) 56 = .ok (.bipush 10, 2) := by decide +kernel
theorem d24_58 : decode (xcode 24) 58 = .ok (.invokestatic 49, 3) := by decide +kernel
theorem d24_61 : decode (xcode 24) 61 = .ok (.aload_n 1, 1) := by decide +kernel
theorem d24_62 : decode (xcode 24) 62 = .ok (.getfield 33, 3) := by decide +kernel
theorem d24_65 : decode (xcode 24) 65 = .ok (.iconst 0, 1) := by decide +kernel
theorem d24_66 : decode (xcode 24) 66 = .ok (.aload_n 0, 1) := by decide +kernel
theorem d24_67 : decode (xcode 24) 67 = .ok (.getfield 33, 3) := by decide +kernel
theorem d24_70 : decode (xcode 24) 70 = .ok (.iconst 0, 1) := by decide +kernel
theorem d24_71 : decode (xcode 24) 71 = .ok (.bipush 10, 2) := by decide +kernel
theorem d24_73 : decode (xcode 24) 73 = .ok (.invokestatic 49, 3) := by decide +kernel
theorem d24_76 : decode (xcode 24) 76 = .ok (.return_, 1) := by decide +kernel
noncomputable def f_Scene_copyFrom_e (i0 : Nat) (i1 : Nat) (h : xH) : Option xH :=
  (f_Told_copyFrom i0 i1 h).bind fun h3 =>
  (f_State_copyFrom i0 i1 h3).bind fun h6 =>
  xlet (xsI h6 4 2 i0 (h6.1 4 2 i1)) fun h7 =>
  xlet (xsI h7 4 3 i0 (h7.1 4 3 i1)) fun h8 =>
  xlet (xsI h8 4 4 i0 (h8.1 4 4 i1)) fun h9 =>
  if ¬ (0 : Int32) < 0 ∧ ¬ (0 : Int32) < 0 ∧ ¬ (10 : Int32) < 0 ∧ ((0 : Int32)).toNatClampNeg + ((10 : Int32)).toNatClampNeg ≤ 10 ∧ ((0 : Int32)).toNatClampNeg + ((10 : Int32)).toNatClampNeg ≤ 10 then (
  xlet (xsA h9 20 i0 (va_cpy (h9.2.2.2.1 20 i1) (h9.2.2.2.1 20 i0) ((0 : Int32)).toNatClampNeg ((0 : Int32)).toNatClampNeg ((10 : Int32)).toNatClampNeg)) fun h11 =>
  if ¬ (0 : Int32) < 0 ∧ ¬ (0 : Int32) < 0 ∧ ¬ (10 : Int32) < 0 ∧ ((0 : Int32)).toNatClampNeg + ((10 : Int32)).toNatClampNeg ≤ 10 ∧ ((0 : Int32)).toNatClampNeg + ((10 : Int32)).toNatClampNeg ≤ 10 then (
  xlet (xsA h11 21 i0 (va_cpy (h11.2.2.2.1 21 i1) (h11.2.2.2.1 21 i0) ((0 : Int32)).toNatClampNeg ((0 : Int32)).toNatClampNeg ((10 : Int32)).toNatClampNeg)) fun h13 =>
  some (h13)) else none) else none
set_option maxHeartbeats 4000000 in
set_option maxRecDepth 100000 in
theorem f_Scene_copyFrom_e_ok {g : xG} {l : Launch} {d : Nat} {i0 : Nat} {i1 : Nat} {h : xH} {o : xH} {R : Option xV} {H' : xH} (hD : 2 ≤ d) (hf : f_Scene_copyFrom_e i0 i1 h = some o) (K0 : ∀ (h1 : xH), o = h1 → R = none ∧ H' = h1) : xEv g l d 24 0 [(0, xr 4 (some i0)), (1, xr 4 (some i1))] [] h R H' := by
  unfold f_Scene_copyFrom_e at hf
  refine xs_aload_n d24_0 rfl ?_
  refine xe_getc (j := i0) d24_1 ky24 fl95 fk4_0 (by omega) ?_
  refine xs_aload_n d24_4 rfl ?_
  refine xe_getc (j := i1) d24_5 ky24 fl95 fk4_0 (by omega) ?_
  obtain ⟨h3, hc2, hf⟩ := lk_b hf
  refine xe_callv0 (as := [xr 8 (some i1)]) (st := []) (h2 := h3) (d2 := d - 1) d24_8 ky24 ml176 st75 (by decide) cn75 rfl na75 (Nat.le_of_ble_eq_true rfl) (by omega) (f_Told_copyFrom_ok (by omega) hc2) ?_
  refine xs_aload_n d24_11 rfl ?_
  refine xe_getc (j := i0) d24_12 ky24 fl97 fk4_1 (by omega) ?_
  refine xs_aload_n d24_15 rfl ?_
  refine xe_getc (j := i1) d24_16 ky24 fl97 fk4_1 (by omega) ?_
  obtain ⟨h6, hc5, hf⟩ := lk_b hf
  refine xe_callv0 (as := [xr 6 (some i1)]) (st := []) (h2 := h6) (d2 := d - 1) d24_19 ky24 ml177 st46 (by decide) cn46 rfl na46 (Nat.le_of_ble_eq_true rfl) (by omega) (f_State_copyFrom_ok (by omega) hc5) ?_
  refine xs_aload_n d24_22 rfl ?_
  refine xs_aload_n d24_23 rfl ?_
  refine xe_geti d24_24 ky24 fl99 fk4_2 ?_
  obtain ⟨h7, eh7, hf⟩ := lk_let hf
  refine xe_puti d24_27 ky24 fl99 fk4_2 ft4_2 eh7 ?_
  refine xs_aload_n d24_30 rfl ?_
  refine xs_aload_n d24_31 rfl ?_
  refine xe_geti d24_32 ky24 fl101 fk4_3 ?_
  obtain ⟨h8, eh8, hf⟩ := lk_let hf
  refine xe_puti d24_35 ky24 fl101 fk4_3 ft4_3 eh8 ?_
  refine xs_aload_n d24_38 rfl ?_
  refine xs_aload_n d24_39 rfl ?_
  refine xe_geti d24_40 ky24 fl103 fk4_4 ?_
  obtain ⟨h9, eh9, hf⟩ := lk_let hf
  refine xe_puti d24_43 ky24 fl103 fk4_4 ft4_4 eh9 ?_
  refine xs_aload_n d24_46 rfl ?_
  refine xe_getc (j := i1) d24_47 ky24 fl105 fk4_5 (by omega) ?_
  refine xs_iconst (v := 0) d24_50 (by decide) ?_
  refine xs_aload_n d24_51 rfl ?_
  refine xe_getc (j := i0) d24_52 ky24 fl105 fk4_5 (by omega) ?_
  refine xs_iconst (v := 0) d24_55 (by decide) ?_
  refine xs_bipush (v := 10) d24_56 (by decide) ?_
  obtain ⟨hin10, hf⟩ := lk_g hf
  obtain ⟨h11, eh11, hf⟩ := lk_let hf
  refine xe_copy d24_58 ky24 cp4_49 cpw (by decide) ak20 (by decide) ak20 hin10 (Nat.le_of_ble_eq_true rfl) (by omega) eh11 ?_
  refine xs_aload_n d24_61 rfl ?_
  refine xe_getc (j := i1) d24_62 ky24 fl106 fk4_6 (by omega) ?_
  refine xs_iconst (v := 0) d24_65 (by decide) ?_
  refine xs_aload_n d24_66 rfl ?_
  refine xe_getc (j := i0) d24_67 ky24 fl106 fk4_6 (by omega) ?_
  refine xs_iconst (v := 0) d24_70 (by decide) ?_
  refine xs_bipush (v := 10) d24_71 (by decide) ?_
  obtain ⟨hin12, hf⟩ := lk_g hf
  obtain ⟨h13, eh13, hf⟩ := lk_let hf
  refine xe_copy d24_73 ky24 cp4_49 cpw (by decide) ak21 (by decide) ak21 hin12 (Nat.le_of_ble_eq_true rfl) (by omega) eh13 ?_
  obtain ⟨eR, eH⟩ := K0 _ (Option.some.inj hf).symm
  subst eR; subst eH
  exact xs_vret d24_76 rt24
noncomputable def f_Scene_copyFrom (i0 : Nat) (i1 : Nat) (h : xH) : Option xH := f_Scene_copyFrom_e i0 i1 h
theorem f_Scene_copyFrom_ok {g : xG} {l : Launch} {d : Nat} {i0 : Nat} {i1 : Nat} {h : xH} {h1 : xH} (hD : 2 ≤ d) (hf : f_Scene_copyFrom i0 i1 h = some h1) : xC g l d 24 [xr 4 (some i0), xr 4 (some i1)] h none h1 :=
  xC_of (by decide) (Nat.le_of_ble_eq_true rfl) (f_Scene_copyFrom_e_ok hD hf (fun _ e => ⟨rfl, e⟩))
theorem d25_0 : decode (xcode 25) 0 = .ok (.aload_n 0, 1) := by decide +kernel
theorem d25_1 : decode (xcode 25) 1 = .ok (.getfield 46, 3) := by decide +kernel
theorem d25_4 : decode (xcode 25) 4 = .ok (.ifCond .lt 42, 3) := by decide +kernel
theorem d25_7 : decode (xcode 25) 7 = .ok (.aload_n 0, 1) := by decide +kernel
theorem d25_8 : decode (xcode 25) 8 = .ok (.getfield 46, 3) := by decide +kernel
theorem d25_11 : decode (xcode 25) 11 = .ok (.bipush 10, 2) := by decide +kernel
theorem d25_13 : decode (xcode 25) 13 = .ok (.if_icmp .ge 33, 3) := by decide +kernel
theorem d25_16 : decode (xcode 25) 16 = .ok (.aload_n 0, 1) := by decide +kernel
theorem d25_17 : decode (xcode 25) 17 = .ok (.getfield 29, 3) := by decide +kernel
theorem d25_20 : decode (xcode 25) 20 = .ok (.aload_n 0, 1) := by decide +kernel
theorem d25_21 : decode (xcode 25) 21 = .ok (.getfield 46, 3) := by decide +kernel
theorem d25_24 : decode (xcode 25) 24 = .ok (.iload_n 1, 1) := by decide +kernel
theorem d25_25 : decode (xcode 25) 25 = .ok (.iastore, 1) := by decide +kernel
theorem d25_26 : decode (xcode 25) 26 = .ok (.aload_n 0, 1) := by decide +kernel
theorem d25_27 : decode (xcode 25) 27 = .ok (.getfield 33, 3) := by decide +kernel
theorem d25_30 : decode (xcode 25) 30 = .ok (.aload_n 0, 1) := by decide +kernel
theorem d25_31 : decode (xcode 25) 31 = .ok (.getfield 46, 3) := by decide +kernel
theorem d25_34 : decode (xcode 25) 34 = .ok (.iload_n 2, 1) := by decide +kernel
theorem d25_35 : decode (xcode 25) 35 = .ok (.iastore, 1) := by decide +kernel
theorem d25_36 : decode (xcode 25) 36 = .ok (.aload_n 0, 1) := by decide +kernel
theorem d25_37 : decode (xcode 25) 37 = .ok (.dup, 1) := by decide +kernel
theorem d25_38 : decode (xcode 25) 38 = .ok (.getfield 46, 3) := by decide +kernel
theorem d25_41 : decode (xcode 25) 41 = .ok (.iconst 1, 1) := by decide +kernel
theorem d25_42 : decode (xcode 25) 42 = .ok (.iadd, 1) := by decide +kernel
theorem d25_43 : decode (xcode 25) 43 = .ok (.putfield 46, 3) := by decide +kernel
theorem d25_46 : decode (xcode 25) 46 = .ok (.return_, 1) := by decide +kernel
noncomputable def f_Scene_keepNote_e (i0 : Nat) (v1 : Int32) (v2 : Int32) (h : xH) : Option xH :=
  if (h.1 4 4 i0) < (0 : Int32) then (
  some (h)) else (
  if (10 : Int32) ≤ (h.1 4 4 i0) then (
  some (h)) else (
  if xib (h.1 4 4 i0) 10 then (
  xlet (xsA h 20 i0 (upd (h.2.2.2.1 20 i0) (h.1 4 4 i0).toNatClampNeg v1)) fun h4 =>
  if xib (h4.1 4 4 i0) 10 then (
  xlet (xsA h4 21 i0 (upd (h4.2.2.2.1 21 i0) (h4.1 4 4 i0).toNatClampNeg v2)) fun h6 =>
  xlet (xsI h6 4 4 i0 ((h6.1 4 4 i0) + (1 : Int32))) fun h7 =>
  some (h7)) else none) else none))
set_option maxHeartbeats 4000000 in
set_option maxRecDepth 100000 in
theorem f_Scene_keepNote_e_ok {g : xG} {l : Launch} {d : Nat} {i0 : Nat} {v1 : Int32} {v2 : Int32} {h : xH} {o : xH} {R : Option xV} {H' : xH} (hD : 0 ≤ d) (hf : f_Scene_keepNote_e i0 v1 v2 h = some o) (K0 : ∀ (h1 : xH), o = h1 → R = none ∧ H' = h1) : xEv g l d 25 0 [(0, xr 4 (some i0)), (1, xi v1), (2, xi v2)] [] h R H' := by
  unfold f_Scene_keepNote_e at hf
  refine xs_aload_n d25_0 rfl ?_
  refine xe_geti d25_1 ky25 fl103 fk4_4 ?_
  rcases lk_if hf with ⟨hc1, hf⟩ | ⟨hc1, hf⟩
  · refine xs_if_lt (tgt := 46) d25_4 (by decide) (fun _ => ?_) (fun hn => absurd hc1 hn)
    obtain ⟨eR, eH⟩ := K0 _ (Option.some.inj hf).symm
    subst eR; subst eH
    exact xs_vret d25_46 rt25
  · refine xs_if_lt (tgt := 46) d25_4 (by decide) (fun hp => absurd hp hc1) (fun _ => ?_)
    refine xs_aload_n d25_7 rfl ?_
    refine xe_geti d25_8 ky25 fl103 fk4_4 ?_
    refine xs_bipush (v := 10) d25_11 (by decide) ?_
    rcases lk_if hf with ⟨hc2, hf⟩ | ⟨hc2, hf⟩
    · refine xs_icmp_ge (tgt := 46) d25_13 (by decide) (fun _ => ?_) (fun hn => absurd hc2 hn)
      obtain ⟨eR, eH⟩ := K0 _ (Option.some.inj hf).symm
      subst eR; subst eH
      exact xs_vret d25_46 rt25
    · refine xs_icmp_ge (tgt := 46) d25_13 (by decide) (fun hp => absurd hp hc2) (fun _ => ?_)
      refine xs_aload_n d25_16 rfl ?_
      refine xe_getc (j := i0) d25_17 ky25 fl105 fk4_5 (by omega) ?_
      refine xs_aload_n d25_20 rfl ?_
      refine xe_geti d25_21 ky25 fl103 fk4_4 ?_
      refine xs_iload_n d25_24 rfl ?_
      obtain ⟨hin3, hf⟩ := lk_g hf
      obtain ⟨h4, eh4, hf⟩ := lk_let hf
      refine xe_iast d25_25 (by decide) ak20 hin3  eh4 ?_
      refine xs_aload_n d25_26 rfl ?_
      refine xe_getc (j := i0) d25_27 ky25 fl106 fk4_6 (by omega) ?_
      refine xs_aload_n d25_30 rfl ?_
      refine xe_geti d25_31 ky25 fl103 fk4_4 ?_
      refine xs_iload_n d25_34 rfl ?_
      obtain ⟨hin5, hf⟩ := lk_g hf
      obtain ⟨h6, eh6, hf⟩ := lk_let hf
      refine xe_iast d25_35 (by decide) ak21 hin5  eh6 ?_
      refine xs_aload_n d25_36 rfl ?_
      refine xs_dup d25_37 rfl ?_
      refine xe_geti d25_38 ky25 fl103 fk4_4 ?_
      refine xs_iconst (v := 1) d25_41 (by decide) ?_
      refine xs_iadd d25_42 ?_
      obtain ⟨h7, eh7, hf⟩ := lk_let hf
      refine xe_puti d25_43 ky25 fl103 fk4_4 ft4_4 eh7 ?_
      obtain ⟨eR, eH⟩ := K0 _ (Option.some.inj hf).symm
      subst eR; subst eH
      exact xs_vret d25_46 rt25
noncomputable def f_Scene_keepNote (i0 : Nat) (v1 : Int32) (v2 : Int32) (h : xH) : Option xH := f_Scene_keepNote_e i0 v1 v2 h
theorem f_Scene_keepNote_ok {g : xG} {l : Launch} {d : Nat} {i0 : Nat} {v1 : Int32} {v2 : Int32} {h : xH} {h1 : xH} (hD : 0 ≤ d) (hf : f_Scene_keepNote i0 v1 v2 h = some h1) : xC g l d 25 [xr 4 (some i0), xi v1, xi v2] h none h1 :=
  xC_of (by decide) (Nat.le_of_ble_eq_true rfl) (f_Scene_keepNote_e_ok hD hf (fun _ e => ⟨rfl, e⟩))
theorem d26_0 : decode (xcode 26) 0 = .ok (.iconst (-1), 1) := by decide +kernel
theorem d26_1 : decode (xcode 26) 1 = .ok (.istore_n 1, 1) := by decide +kernel
theorem d26_2 : decode (xcode 26) 2 = .ok (.iconst 0, 1) := by decide +kernel
theorem d26_3 : decode (xcode 26) 3 = .ok (.istore_n 2, 1) := by decide +kernel
theorem d26_4 : decode (xcode 26) 4 = .ok (.iload_n 2, 1) := by decide +kernel
theorem d26_5 : decode (xcode 26) 5 = .ok (.aload_n 0, 1) := by decide +kernel
theorem d26_6 : decode (xcode 26) 6 = .ok (.getfield 46, 3) := by decide +kernel
theorem d26_9 : decode (xcode 26) 9 = .ok (.if_icmp .ge 26, 3) := by decide +kernel
theorem d26_12 : decode (xcode 26) 12 = .ok (.iload_n 2, 1) := by decide +kernel
theorem d26_13 : decode (xcode 26) 13 = .ok (.bipush 10, 2) := by decide +kernel
theorem d26_15 : decode (xcode 26) 15 = .ok (.if_icmp .ge 20, 3) := by decide +kernel
theorem d26_18 : decode (xcode 26) 18 = .ok (.iload_n 1, 1) := by decide +kernel
theorem d26_19 : decode (xcode 26) 19 = .ok (.aload_n 0, 1) := by decide +kernel
theorem d26_20 : decode (xcode 26) 20 = .ok (.getfield 29, 3) := by decide +kernel
theorem d26_23 : decode (xcode 26) 23 = .ok (.iload_n 2, 1) := by decide +kernel
theorem d26_24 : decode (xcode 26) 24 = .ok (.iaload, 1) := by decide +kernel
theorem d26_25 : decode (xcode 26) 25 = .ok (.invokestatic 55, 3) := by decide +kernel
theorem d26_28 : decode (xcode 26) 28 = .ok (.istore_n 1, 1) := by decide +kernel
theorem d26_29 : decode (xcode 26) 29 = .ok (.iinc 2 1, 3) := by decide +kernel
theorem d26_32 : decode (xcode 26) 32 = .ok (.goto (-28), 3) := by decide +kernel
theorem d26_35 : decode (xcode 26) 35 = .ok (.iload_n 1, 1) := by decide +kernel
theorem d26_36 : decode (xcode 26) 36 = .ok (.ireturn, 1) := by decide +kernel
noncomputable def f_Scene_lastNoted_s4 (i0 : Nat) (v1 : Int32) (v2 : Int32) (h : xH) : Option ((Int32 × Int32) ⊕ Int32) :=
  if (h.1 4 4 i0) ≤ v2 then (
  some (Sum.inr (v1))) else (
  if (10 : Int32) ≤ v2 then (
  some (Sum.inr (v1))) else (
  if xib v2 10 then (
  (f_Math_max v1 (h.2.2.2.1 20 i0 (v2).toNatClampNeg) h).bind fun r4 =>
  xlet (v2 + (1 : Int32)) fun v2_6 =>
  some (Sum.inl (r4, v2_6))) else none))
set_option maxHeartbeats 4000000 in
set_option maxRecDepth 100000 in
theorem f_Scene_lastNoted_s4_ok {g : xG} {l : Launch} {d : Nat} {i0 : Nat} {v1 : Int32} {v2 : Int32} {h : xH} {o : ((Int32 × Int32) ⊕ Int32)} {R : Option xV} (hD : 1 ≤ d) (hf : f_Scene_lastNoted_s4 i0 v1 v2 h = some o) (K1 : ∀ (w1 : Int32) (w2 : Int32), o = Sum.inl (w1, w2) → xEv g l d 26 4 [(0, xr 4 (some i0)), (1, xi w1), (2, xi w2)] [] h R h) (K0 : ∀ (a : Int32), o = Sum.inr (a) → R = some (xi a)) : xEv g l d 26 4 [(0, xr 4 (some i0)), (1, xi v1), (2, xi v2)] [] h R h := by
  unfold f_Scene_lastNoted_s4 at hf
  refine xs_iload_n d26_4 rfl ?_
  refine xs_aload_n d26_5 rfl ?_
  refine xe_geti d26_6 ky26 fl103 fk4_4 ?_
  rcases lk_if hf with ⟨hc1, hf⟩ | ⟨hc1, hf⟩
  · refine xs_icmp_ge (tgt := 35) d26_9 (by decide) (fun _ => ?_) (fun hn => absurd hc1 hn)
    refine xs_iload_n d26_35 rfl ?_
    obtain eR := K0 _ (Option.some.inj hf).symm
    subst eR
    exact xs_iret d26_36 rt26
  · refine xs_icmp_ge (tgt := 35) d26_9 (by decide) (fun hp => absurd hp hc1) (fun _ => ?_)
    refine xs_iload_n d26_12 rfl ?_
    refine xs_bipush (v := 10) d26_13 (by decide) ?_
    rcases lk_if hf with ⟨hc2, hf⟩ | ⟨hc2, hf⟩
    · refine xs_icmp_ge (tgt := 35) d26_15 (by decide) (fun _ => ?_) (fun hn => absurd hc2 hn)
      refine xs_iload_n d26_35 rfl ?_
      obtain eR := K0 _ (Option.some.inj hf).symm
      subst eR
      exact xs_iret d26_36 rt26
    · refine xs_icmp_ge (tgt := 35) d26_15 (by decide) (fun hp => absurd hp hc2) (fun _ => ?_)
      refine xs_iload_n d26_18 rfl ?_
      refine xs_aload_n d26_19 rfl ?_
      refine xe_getc (j := i0) d26_20 ky26 fl105 fk4_5 (by omega) ?_
      refine xs_iload_n d26_23 rfl ?_
      obtain ⟨hin3, hf⟩ := lk_g hf
      refine xe_iald d26_24 (by decide) ak20 hin3 ?_
      obtain ⟨r4, hc5, hf⟩ := lk_b hf
      refine xe_calls1 (as := [xi v1, xi (h.2.2.2.1 20 i0 (v2).toNatClampNeg)]) (st := []) (h2 := h) (d2 := d - 1) d26_25 ky26 ml160 st256 rfl na256 (Nat.le_of_ble_eq_true rfl) (by omega) (f_Math_max_ok (by omega) hc5) ?_
      refine xe_istore_n (v := r4) (ls2 := [(0, xr 4 (some i0)), (1, xi r4), (2, xi v2)]) d26_28 mx26 (by decide) rfl rfl ?_
      obtain ⟨v2_6, ev2_6, hf⟩ := lk_let hf
      refine xe_iinc (v := v2_6) (b := 1) (ls2 := [(0, xr 4 (some i0)), (1, xi r4), (2, xi v2_6)]) d26_29 mx26 (by decide) rfl (by decide) ev2_6 rfl ?_
      refine xs_goto (tgt := 4) d26_32 (by decide) ?_
      exact K1 _ _ (Option.some.inj hf).symm
noncomputable def f_Scene_lastNoted_l4 (i0 : Nat) (v1 : Int32) (v2 : Int32) (h : xH) : Option Int32 :=
  whl (fun s => f_Scene_lastNoted_s4 i0 s.1 s.2 h) (v1, v2)
theorem f_Scene_lastNoted_l4_ok {g : xG} {l : Launch} {d : Nat} {i0 : Nat} {v1 : Int32} {v2 : Int32} {h : xH} {o : Int32} {R : Option xV} (hD : 1 ≤ d) (hf : f_Scene_lastNoted_l4 i0 v1 v2 h = some o) (K0 : ∀ (a : Int32), o = a → R = some (xi a)) : xEv g l d 26 4 [(0, xr 4 (some i0)), (1, xi v1), (2, xi v2)] [] h R h := by
  obtain ⟨n, hn⟩ := whl_iff.mp hf
  clear hf
  induction n generalizing v1 v2 with
  | zero => cases hn
  | succ n ih =>
    obtain ⟨o2, hs, hn⟩ := lk_b (show (f_Scene_lastNoted_s4 i0 v1 v2 h).bind (fun o => Sum.elim (itn _ n) some o) = some o from hn)
    exact f_Scene_lastNoted_s4_ok hD hs (fun u0 u1 e => ih (by rw [e] at hn; exact hn)) (fun u0 e => K0 u0 (by rw [e] at hn; exact (Option.some.inj hn).symm))
noncomputable def f_Scene_lastNoted_e (i0 : Nat) (h : xH) : Option Int32 :=
  f_Scene_lastNoted_l4 i0 (-1 : Int32) (0 : Int32) h
set_option maxHeartbeats 4000000 in
set_option maxRecDepth 100000 in
theorem f_Scene_lastNoted_e_ok {g : xG} {l : Launch} {d : Nat} {i0 : Nat} {h : xH} {o : Int32} {R : Option xV} (hD : 1 ≤ d) (hf : f_Scene_lastNoted_e i0 h = some o) (K0 : ∀ (a : Int32), o = a → R = some (xi a)) : xEv g l d 26 0 [(0, xr 4 (some i0))] [] h R h := by
  unfold f_Scene_lastNoted_e at hf
  refine xs_iconst (v := -1) d26_0 (by decide) ?_
  refine xe_istore_n (v := (-1 : Int32)) (ls2 := [(0, xr 4 (some i0)), (1, xi (-1 : Int32))]) d26_1 mx26 (by decide) rfl rfl ?_
  refine xs_iconst (v := 0) d26_2 (by decide) ?_
  refine xe_istore_n (v := (0 : Int32)) (ls2 := [(0, xr 4 (some i0)), (1, xi (-1 : Int32)), (2, xi (0 : Int32))]) d26_3 mx26 (by decide) rfl rfl ?_
  exact f_Scene_lastNoted_l4_ok hD hf K0
noncomputable def f_Scene_lastNoted (i0 : Nat) (h : xH) : Option Int32 := f_Scene_lastNoted_e i0 h
theorem f_Scene_lastNoted_ok {g : xG} {l : Launch} {d : Nat} {i0 : Nat} {h : xH} {r : Int32} (hD : 1 ≤ d) (hf : f_Scene_lastNoted i0 h = some r) : xC g l d 26 [xr 4 (some i0)] h (some (xi r)) h :=
  xC_of (by decide) (Nat.le_of_ble_eq_true rfl) (f_Scene_lastNoted_e_ok hD hf (fun _ e => by rw [e]))
theorem d27_0 : decode (xcode 27) 0 = .ok (.iconst 0, 1) := by decide +kernel
theorem d27_1 : decode (xcode 27) 1 = .ok (.istore_n 3, 1) := by decide +kernel
theorem d27_2 : decode (xcode 27) 2 = .ok (.iload_n 3, 1) := by decide +kernel
theorem d27_3 : decode (xcode 27) 3 = .ok (.aload_n 0, 1) := by decide +kernel
theorem d27_4 : decode (xcode 27) 4 = .ok (.getfield 46, 3) := by decide +kernel
theorem d27_7 : decode (xcode 27) 7 = .ok (.if_icmp .ge 37, 3) := by decide +kernel
theorem d27_10 : decode (xcode 27) 10 = .ok (.iload_n 3, 1) := by decide +kernel
theorem d27_11 : decode (xcode 27) 11 = .ok (.bipush 10, 2) := by decide +kernel
theorem d27_13 : decode (xcode 27) 13 = .ok (.if_icmp .ge 31, 3) := by decide +kernel
theorem d27_16 : decode (xcode 27) 16 = .ok (.aload_n 0, 1) := by decide +kernel
theorem d27_17 : decode (xcode 27) 17 = .ok (.getfield 29, 3) := by decide +kernel
theorem d27_20 : decode (xcode 27) 20 = .ok (.iload_n 3, 1) := by decide +kernel
theorem d27_21 : decode (xcode 27) 21 = .ok (.iaload, 1) := by decide +kernel
theorem d27_22 : decode (xcode 27) 22 = .ok (.iload_n 1, 1) := by decide +kernel
theorem d27_23 : decode (xcode 27) 23 = .ok (.if_icmp .ne 15, 3) := by decide +kernel
theorem d27_26 : decode (xcode 27) 26 = .ok (.aload_n 0, 1) := by decide +kernel
theorem d27_27 : decode (xcode 27) 27 = .ok (.getfield 33, 3) := by decide +kernel
theorem d27_30 : decode (xcode 27) 30 = .ok (.iload_n 3, 1) := by decide +kernel
theorem d27_31 : decode (xcode 27) 31 = .ok (.iaload, 1) := by decide +kernel
theorem d27_32 : decode (xcode 27) 32 = .ok (.iload_n 2, 1) := by decide +kernel
theorem d27_33 : decode (xcode 27) 33 = .ok (.if_icmp .eq 5, 3) := by decide +kernel
theorem d27_36 : decode (xcode 27) 36 = .ok (.iconst 0, 1) := by decide +kernel
theorem d27_37 : decode (xcode 27) 37 = .ok (.ireturn, 1) := by decide +kernel
theorem d27_38 : decode (xcode 27) 38 = .ok (.iinc 3 1, 3) := by decide +kernel
theorem d27_41 : decode (xcode 27) 41 = .ok (.goto (-39), 3) := by decide +kernel
theorem d27_44 : decode (xcode 27) 44 = .ok (.iconst 1, 1) := by decide +kernel
theorem d27_45 : decode (xcode 27) 45 = .ok (.ireturn, 1) := by decide +kernel
noncomputable def f_Scene_agrees_b38 (i0 : Nat) (v1 : Int32) (v2 : Int32) (v3 : Int32) (h : xH) : Option ((Int32) ⊕ Int32) :=
  xlet (v3 + (1 : Int32)) fun v3_7 =>
  some (Sum.inl v3_7)
set_option maxHeartbeats 4000000 in
set_option maxRecDepth 100000 in
theorem f_Scene_agrees_b38_ok {g : xG} {l : Launch} {d : Nat} {i0 : Nat} {v1 : Int32} {v2 : Int32} {v3 : Int32} {h : xH} {o : ((Int32) ⊕ Int32)} {R : Option xV} (hD : 0 ≤ d) (hf : f_Scene_agrees_b38 i0 v1 v2 v3 h = some o) (K1 : ∀ (w3 : Int32), o = Sum.inl w3 → xEv g l d 27 2 [(0, xr 4 (some i0)), (1, xi v1), (2, xi v2), (3, xi w3)] [] h R h) (K0 : ∀ (a : Int32), o = Sum.inr (a) → R = some (xi a)) : xEv g l d 27 38 [(0, xr 4 (some i0)), (1, xi v1), (2, xi v2), (3, xi v3)] [] h R h := by
  unfold f_Scene_agrees_b38 at hf
  obtain ⟨v3_7, ev3_7, hf⟩ := lk_let hf
  refine xe_iinc (v := v3_7) (b := 1) (ls2 := [(0, xr 4 (some i0)), (1, xi v1), (2, xi v2), (3, xi v3_7)]) d27_38 mx27 (by decide) rfl (by decide) ev3_7 rfl ?_
  refine xs_goto (tgt := 2) d27_41 (by decide) ?_
  exact K1 _ (Option.some.inj hf).symm
noncomputable def f_Scene_agrees_s2 (i0 : Nat) (v1 : Int32) (v2 : Int32) (v3 : Int32) (h : xH) : Option ((Int32) ⊕ Int32) :=
  if (h.1 4 4 i0) ≤ v3 then (
  some (Sum.inr ((1 : Int32)))) else (
  if (10 : Int32) ≤ v3 then (
  some (Sum.inr ((1 : Int32)))) else (
  if xib v3 10 then (
  if (h.2.2.2.1 20 i0 (v3).toNatClampNeg) = v1 then (
  if xib v3 10 then (
  if (h.2.2.2.1 21 i0 (v3).toNatClampNeg) = v2 then (
  f_Scene_agrees_b38 i0 v1 v2 v3 h) else (
  some (Sum.inr ((0 : Int32))))) else none) else (
  f_Scene_agrees_b38 i0 v1 v2 v3 h)) else none))
set_option maxHeartbeats 4000000 in
set_option maxRecDepth 100000 in
theorem f_Scene_agrees_s2_ok {g : xG} {l : Launch} {d : Nat} {i0 : Nat} {v1 : Int32} {v2 : Int32} {v3 : Int32} {h : xH} {o : ((Int32) ⊕ Int32)} {R : Option xV} (hD : 0 ≤ d) (hf : f_Scene_agrees_s2 i0 v1 v2 v3 h = some o) (K1 : ∀ (w3 : Int32), o = Sum.inl w3 → xEv g l d 27 2 [(0, xr 4 (some i0)), (1, xi v1), (2, xi v2), (3, xi w3)] [] h R h) (K0 : ∀ (a : Int32), o = Sum.inr (a) → R = some (xi a)) : xEv g l d 27 2 [(0, xr 4 (some i0)), (1, xi v1), (2, xi v2), (3, xi v3)] [] h R h := by
  unfold f_Scene_agrees_s2 at hf
  refine xs_iload_n d27_2 rfl ?_
  refine xs_aload_n d27_3 rfl ?_
  refine xe_geti d27_4 ky27 fl103 fk4_4 ?_
  rcases lk_if hf with ⟨hc1, hf⟩ | ⟨hc1, hf⟩
  · refine xs_icmp_ge (tgt := 44) d27_7 (by decide) (fun _ => ?_) (fun hn => absurd hc1 hn)
    refine xs_iconst (v := 1) d27_44 (by decide) ?_
    obtain eR := K0 _ (Option.some.inj hf).symm
    subst eR
    exact xe_zret d27_45 (Or.inr rfl) rt27
  · refine xs_icmp_ge (tgt := 44) d27_7 (by decide) (fun hp => absurd hp hc1) (fun _ => ?_)
    refine xs_iload_n d27_10 rfl ?_
    refine xs_bipush (v := 10) d27_11 (by decide) ?_
    rcases lk_if hf with ⟨hc2, hf⟩ | ⟨hc2, hf⟩
    · refine xs_icmp_ge (tgt := 44) d27_13 (by decide) (fun _ => ?_) (fun hn => absurd hc2 hn)
      refine xs_iconst (v := 1) d27_44 (by decide) ?_
      obtain eR := K0 _ (Option.some.inj hf).symm
      subst eR
      exact xe_zret d27_45 (Or.inr rfl) rt27
    · refine xs_icmp_ge (tgt := 44) d27_13 (by decide) (fun hp => absurd hp hc2) (fun _ => ?_)
      refine xs_aload_n d27_16 rfl ?_
      refine xe_getc (j := i0) d27_17 ky27 fl105 fk4_5 (by omega) ?_
      refine xs_iload_n d27_20 rfl ?_
      obtain ⟨hin3, hf⟩ := lk_g hf
      refine xe_iald d27_21 (by decide) ak20 hin3 ?_
      refine xs_iload_n d27_22 rfl ?_
      rcases lk_if hf with ⟨hc4, hf⟩ | ⟨hc4, hf⟩
      · refine xs_icmp_ne (tgt := 38) d27_23 (by decide) (fun _ => ?_) (fun hn => absurd hc4 hn)
        refine xs_aload_n d27_26 rfl ?_
        refine xe_getc (j := i0) d27_27 ky27 fl106 fk4_6 (by omega) ?_
        refine xs_iload_n d27_30 rfl ?_
        obtain ⟨hin5, hf⟩ := lk_g hf
        refine xe_iald d27_31 (by decide) ak21 hin5 ?_
        refine xs_iload_n d27_32 rfl ?_
        rcases lk_if hf with ⟨hc6, hf⟩ | ⟨hc6, hf⟩
        · refine xs_icmp_eq (tgt := 38) d27_33 (by decide) (fun _ => ?_) (fun hn => absurd hc6 hn)
          exact f_Scene_agrees_b38_ok hD hf K1 K0
        · refine xs_icmp_eq (tgt := 38) d27_33 (by decide) (fun hp => absurd hp hc6) (fun _ => ?_)
          refine xs_iconst (v := 0) d27_36 (by decide) ?_
          obtain eR := K0 _ (Option.some.inj hf).symm
          subst eR
          exact xe_zret d27_37 (Or.inl rfl) rt27
      · refine xs_icmp_ne (tgt := 38) d27_23 (by decide) (fun hp => absurd hp hc4) (fun _ => ?_)
        exact f_Scene_agrees_b38_ok hD hf K1 K0
noncomputable def f_Scene_agrees_l2 (i0 : Nat) (v1 : Int32) (v2 : Int32) (v3 : Int32) (h : xH) : Option Int32 :=
  whl (fun s => f_Scene_agrees_s2 i0 v1 v2 s h) v3
theorem f_Scene_agrees_l2_ok {g : xG} {l : Launch} {d : Nat} {i0 : Nat} {v1 : Int32} {v2 : Int32} {v3 : Int32} {h : xH} {o : Int32} {R : Option xV} (hD : 0 ≤ d) (hf : f_Scene_agrees_l2 i0 v1 v2 v3 h = some o) (K0 : ∀ (a : Int32), o = a → R = some (xi a)) : xEv g l d 27 2 [(0, xr 4 (some i0)), (1, xi v1), (2, xi v2), (3, xi v3)] [] h R h := by
  obtain ⟨n, hn⟩ := whl_iff.mp hf
  clear hf
  induction n generalizing v3 with
  | zero => cases hn
  | succ n ih =>
    obtain ⟨o2, hs, hn⟩ := lk_b (show (f_Scene_agrees_s2 i0 v1 v2 v3 h).bind (fun o => Sum.elim (itn _ n) some o) = some o from hn)
    exact f_Scene_agrees_s2_ok hD hs (fun u0 e => ih (by rw [e] at hn; exact hn)) (fun u0 e => K0 u0 (by rw [e] at hn; exact (Option.some.inj hn).symm))
noncomputable def f_Scene_agrees_e (i0 : Nat) (v1 : Int32) (v2 : Int32) (h : xH) : Option Int32 :=
  f_Scene_agrees_l2 i0 v1 v2 (0 : Int32) h
set_option maxHeartbeats 4000000 in
set_option maxRecDepth 100000 in
theorem f_Scene_agrees_e_ok {g : xG} {l : Launch} {d : Nat} {i0 : Nat} {v1 : Int32} {v2 : Int32} {h : xH} {o : Int32} {R : Option xV} (hD : 0 ≤ d) (hf : f_Scene_agrees_e i0 v1 v2 h = some o) (K0 : ∀ (a : Int32), o = a → R = some (xi a)) : xEv g l d 27 0 [(0, xr 4 (some i0)), (1, xi v1), (2, xi v2)] [] h R h := by
  unfold f_Scene_agrees_e at hf
  refine xs_iconst (v := 0) d27_0 (by decide) ?_
  refine xe_istore_n (v := (0 : Int32)) (ls2 := [(0, xr 4 (some i0)), (1, xi v1), (2, xi v2), (3, xi (0 : Int32))]) d27_1 mx27 (by decide) rfl rfl ?_
  exact f_Scene_agrees_l2_ok hD hf K0
noncomputable def f_Scene_agrees (i0 : Nat) (v1 : Int32) (v2 : Int32) (h : xH) : Option Int32 := f_Scene_agrees_e i0 v1 v2 h
theorem f_Scene_agrees_ok {g : xG} {l : Launch} {d : Nat} {i0 : Nat} {v1 : Int32} {v2 : Int32} {h : xH} {r : Int32} (hD : 0 ≤ d) (hf : f_Scene_agrees i0 v1 v2 h = some r) : xC g l d 27 [xr 4 (some i0), xi v1, xi v2] h (some (xi r)) h :=
  xC_of (by decide) (Nat.le_of_ble_eq_true rfl) (f_Scene_agrees_e_ok hD hf (fun _ e => by rw [e]))
theorem d28_0 : decode (xcode 28) 0 = .ok (.iload_n 0, 1) := by decide +kernel
theorem d28_1 : decode (xcode 28) 1 = .ok (.iload_n 1, 1) := by decide +kernel
theorem d28_2 : decode (xcode 28) 2 = .ok (.ishr, 1) := by decide +kernel
theorem d28_3 : decode (xcode 28) 3 = .ok (.iconst 1, 1) := by decide +kernel
theorem d28_4 : decode (xcode 28) 4 = .ok (.iand, 1) := by decide +kernel
theorem d28_5 : decode (xcode 28) 5 = .ok (.ifCond .eq 7, 3) := by decide +kernel
theorem d28_8 : decode (xcode 28) 8 = .ok (.iconst 1, 1) := by decide +kernel
theorem d28_9 : decode (xcode 28) 9 = .ok (.goto 4, 3) := by decide +kernel
theorem d28_12 : decode (xcode 28) 12 = .ok (.iconst 0, 1) := by decide +kernel
theorem d28_13 : decode (xcode 28) 13 = .ok (.ireturn, 1) := by decide +kernel
noncomputable def f_Sets_has_e (v0 : Int32) (v1 : Int32) (h : xH) : Option Int32 :=
  if ((v0 >>> (v1 &&& 31)) &&& (1 : Int32)) = (0 : Int32) then (
  some ((0 : Int32))) else (
  some ((1 : Int32)))
set_option maxHeartbeats 4000000 in
set_option maxRecDepth 100000 in
theorem f_Sets_has_e_ok {g : xG} {l : Launch} {d : Nat} {v0 : Int32} {v1 : Int32} {h : xH} {o : Int32} {R : Option xV} (hD : 0 ≤ d) (hf : f_Sets_has_e v0 v1 h = some o) (K0 : ∀ (a : Int32), o = a → R = some (xi a)) : xEv g l d 28 0 [(0, xi v0), (1, xi v1)] [] h R h := by
  unfold f_Sets_has_e at hf
  refine xs_iload_n d28_0 rfl ?_
  refine xs_iload_n d28_1 rfl ?_
  refine xs_ishr d28_2 ?_
  refine xs_iconst (v := 1) d28_3 (by decide) ?_
  refine xs_iand d28_4 ?_
  rcases lk_if hf with ⟨hc1, hf⟩ | ⟨hc1, hf⟩
  · refine xs_if_eq (tgt := 12) d28_5 (by decide) (fun _ => ?_) (fun hn => absurd hc1 hn)
    refine xs_iconst (v := 0) d28_12 (by decide) ?_
    obtain eR := K0 _ (Option.some.inj hf).symm
    subst eR
    exact xe_zret d28_13 (Or.inl rfl) rt28
  · refine xs_if_eq (tgt := 12) d28_5 (by decide) (fun hp => absurd hp hc1) (fun _ => ?_)
    refine xs_iconst (v := 1) d28_8 (by decide) ?_
    refine xs_goto (tgt := 13) d28_9 (by decide) ?_
    obtain eR := K0 _ (Option.some.inj hf).symm
    subst eR
    exact xe_zret d28_13 (Or.inr rfl) rt28
noncomputable def f_Sets_has (v0 : Int32) (v1 : Int32) (h : xH) : Option Int32 := f_Sets_has_e v0 v1 h
theorem f_Sets_has_ok {g : xG} {l : Launch} {d : Nat} {v0 : Int32} {v1 : Int32} {h : xH} {r : Int32} (hD : 0 ≤ d) (hf : f_Sets_has v0 v1 h = some r) : xC g l d 28 [xi v0, xi v1] h (some (xi r)) h :=
  xC_of (by decide) (Nat.le_of_ble_eq_true rfl) (f_Sets_has_e_ok hD hf (fun _ e => by rw [e]))
noncomputable def f_Sets_addUp_39_23_s6 (i0 : Nat) (v2 : Int32) (h : xH) : Option ((Int32 × xH) ⊕ xH) :=
  if (256 : Int32) ≤ v2 then (
  some (Sum.inr (h))) else (
  (f_Integer_numberOfTrailingZeros v2 h).bind fun r3 =>
  if xib (v2 &&& (v2 - (1 : Int32))) 256 then (
  if xib r3 8 then (
  if xib v2 256 then (
  xlet (xsA h 23 0 (upd (h.2.2.2.1 23 0) (v2).toNatClampNeg ((h.2.2.2.1 23 0 (v2 &&& (v2 - (1 : Int32))).toNatClampNeg) + (h.2.2.2.1 39 i0 (r3).toNatClampNeg)))) fun h8 =>
  xlet (v2 + (1 : Int32)) fun v2_9 =>
  some (Sum.inl (v2_9, h8))) else none) else none) else none)
set_option maxHeartbeats 4000000 in
set_option maxRecDepth 100000 in
theorem f_Sets_addUp_39_23_s6_ok {g : xG} {l : Launch} {d : Nat} {i0 : Nat} {v2 : Int32} {h : xH} {o : ((Int32 × xH) ⊕ xH)} {R : Option xV} {H' : xH} (hD : 1 ≤ d) (hf : f_Sets_addUp_39_23_s6 i0 v2 h = some o) (K1 : ∀ (w2 : Int32) (h1 : xH), o = Sum.inl (w2, h1) → xEv g l d 29 6 [(0, xr 39 (some i0)), (1, xr 23 (some 0)), (2, xi w2)] [] h1 R H') (K0 : ∀ (h1 : xH), o = Sum.inr (h1) → R = none ∧ H' = h1) : xEv g l d 29 6 [(0, xr 39 (some i0)), (1, xr 23 (some 0)), (2, xi v2)] [] h R H' := by
  unfold f_Sets_addUp_39_23_s6 at hf
  refine xs_iload_n d29_6 rfl ?_
  refine xs_sipush (v := 256) d29_7 (by decide) ?_
  rcases lk_if hf with ⟨hc2, hf⟩ | ⟨hc2, hf⟩
  · refine xs_icmp_ge (tgt := 38) d29_10 (by decide) (fun _ => ?_) (fun hn => absurd hc2 hn)
    obtain ⟨eR, eH⟩ := K0 _ (Option.some.inj hf).symm
    subst eR; subst eH
    exact xs_vret d29_38 rt29
  · refine xs_icmp_ge (tgt := 38) d29_10 (by decide) (fun hp => absurd hp hc2) (fun _ => ?_)
    refine xs_iload_n d29_13 rfl ?_
    obtain ⟨r3, hc4, hf⟩ := lk_b hf
    refine xe_calls1 (as := [xi v2]) (st := []) (h2 := h) (d2 := d - 1) d29_14 ky29 ml116 st254 rfl na254 (Nat.le_of_ble_eq_true rfl) (by omega) (f_Integer_numberOfTrailingZeros_ok (by omega) hc4) ?_
    refine xe_istore_n (v := r3) (ls2 := [(0, xr 39 (some i0)), (1, xr 23 (some 0)), (2, xi v2), (3, xi r3)]) d29_17 mx29 (by decide) rfl rfl ?_
    refine xs_aload_n d29_18 rfl ?_
    refine xs_iload_n d29_19 rfl ?_
    refine xs_aload_n d29_20 rfl ?_
    refine xs_iload_n d29_21 rfl ?_
    refine xs_iload_n d29_22 rfl ?_
    refine xs_iconst (v := 1) d29_23 (by decide) ?_
    refine xs_isub d29_24 ?_
    refine xs_iand d29_25 ?_
    obtain ⟨hin5, hf⟩ := lk_g hf
    refine xe_iald d29_26 (by decide) ak23 hin5 ?_
    refine xs_aload_n d29_27 rfl ?_
    refine xs_iload_n d29_28 rfl ?_
    obtain ⟨hin6, hf⟩ := lk_g hf
    refine xe_iald d29_29 (by decide) ak39 hin6 ?_
    refine xs_iadd d29_30 ?_
    obtain ⟨hin7, hf⟩ := lk_g hf
    obtain ⟨h8, eh8, hf⟩ := lk_let hf
    refine xe_iast d29_31 (by decide) ak23 hin7  eh8 ?_
    obtain ⟨v2_9, ev2_9, hf⟩ := lk_let hf
    refine xe_iinc (v := v2_9) (b := 1) (ls2 := [(0, xr 39 (some i0)), (1, xr 23 (some 0)), (2, xi v2_9), (3, xi r3)]) d29_32 mx29 (by decide) rfl (by decide) ev2_9 rfl ?_
    refine xs_goto (tgt := 6) d29_35 (by decide) ?_
    refine xs_pick [0, 1, 2] rfl ?_
    exact K1 _ _ (Option.some.inj hf).symm
noncomputable def f_Sets_addUp_39_23_l6 (i0 : Nat) (v2 : Int32) (h : xH) : Option xH :=
  whl (fun s => f_Sets_addUp_39_23_s6 i0 s.1 s.2) (v2, h)
theorem f_Sets_addUp_39_23_l6_ok {g : xG} {l : Launch} {d : Nat} {i0 : Nat} {v2 : Int32} {h : xH} {o : xH} {R : Option xV} {H' : xH} (hD : 1 ≤ d) (hf : f_Sets_addUp_39_23_l6 i0 v2 h = some o) (K0 : ∀ (h1 : xH), o = h1 → R = none ∧ H' = h1) : xEv g l d 29 6 [(0, xr 39 (some i0)), (1, xr 23 (some 0)), (2, xi v2)] [] h R H' := by
  obtain ⟨n, hn⟩ := whl_iff.mp hf
  clear hf
  induction n generalizing v2 h with
  | zero => cases hn
  | succ n ih =>
    obtain ⟨o2, hs, hn⟩ := lk_b (show (f_Sets_addUp_39_23_s6 i0 v2 h).bind (fun o => Sum.elim (itn _ n) some o) = some o from hn)
    exact f_Sets_addUp_39_23_s6_ok hD hs (fun u0 u1 e => ih (by rw [e] at hn; exact hn)) (fun u0 e => K0 u0 (by rw [e] at hn; exact (Option.some.inj hn).symm))
noncomputable def f_Sets_addUp_39_23_e (i0 : Nat) (h : xH) : Option xH :=
  xlet (xsA h 23 0 (upd (h.2.2.2.1 23 0) ((0 : Int32)).toNatClampNeg (0 : Int32))) fun h1 =>
  f_Sets_addUp_39_23_l6 i0 (1 : Int32) h1
set_option maxHeartbeats 4000000 in
set_option maxRecDepth 100000 in
theorem f_Sets_addUp_39_23_e_ok {g : xG} {l : Launch} {d : Nat} {i0 : Nat} {h : xH} {o : xH} {R : Option xV} {H' : xH} (hD : 1 ≤ d) (hf : f_Sets_addUp_39_23_e i0 h = some o) (K0 : ∀ (h1 : xH), o = h1 → R = none ∧ H' = h1) : xEv g l d 29 0 [(0, xr 39 (some i0)), (1, xr 23 (some 0))] [] h R H' := by
  unfold f_Sets_addUp_39_23_e at hf
  refine xs_aload_n d29_0 rfl ?_
  refine xs_iconst (v := 0) d29_1 (by decide) ?_
  refine xs_iconst (v := 0) d29_2 (by decide) ?_
  obtain ⟨h1, eh1, hf⟩ := lk_let hf
  refine xe_iast d29_3 (by decide) ak23 (show xib (0 : Int32) 256 by decide)  eh1 ?_
  refine xs_iconst (v := 1) d29_4 (by decide) ?_
  refine xe_istore_n (v := (1 : Int32)) (ls2 := [(0, xr 39 (some i0)), (1, xr 23 (some 0)), (2, xi (1 : Int32))]) d29_5 mx29 (by decide) rfl rfl ?_
  exact f_Sets_addUp_39_23_l6_ok hD hf K0
noncomputable def f_Sets_addUp_39_23 (i0 : Nat) (h : xH) : Option xH := f_Sets_addUp_39_23_e i0 h
theorem f_Sets_addUp_39_23_ok {g : xG} {l : Launch} {d : Nat} {i0 : Nat} {h : xH} {h1 : xH} (hD : 1 ≤ d) (hf : f_Sets_addUp_39_23 i0 h = some h1) : xC g l d 29 [xr 39 (some i0), xr 23 (some 0)] h none h1 :=
  xC_of (by decide) (Nat.le_of_ble_eq_true rfl) (f_Sets_addUp_39_23_e_ok hD hf (fun _ e => ⟨rfl, e⟩))
noncomputable def f_Sets_addUp_32_24_s6 (i0 : Nat) (v2 : Int32) (h : xH) : Option ((Int32 × xH) ⊕ xH) :=
  if (256 : Int32) ≤ v2 then (
  some (Sum.inr (h))) else (
  (f_Integer_numberOfTrailingZeros v2 h).bind fun r3 =>
  if xib (v2 &&& (v2 - (1 : Int32))) 256 then (
  if xib r3 8 then (
  if xib v2 256 then (
  xlet (xsA h 24 0 (upd (h.2.2.2.1 24 0) (v2).toNatClampNeg ((h.2.2.2.1 24 0 (v2 &&& (v2 - (1 : Int32))).toNatClampNeg) + (h.2.2.2.1 32 i0 (r3).toNatClampNeg)))) fun h8 =>
  xlet (v2 + (1 : Int32)) fun v2_9 =>
  some (Sum.inl (v2_9, h8))) else none) else none) else none)
set_option maxHeartbeats 4000000 in
set_option maxRecDepth 100000 in
theorem f_Sets_addUp_32_24_s6_ok {g : xG} {l : Launch} {d : Nat} {i0 : Nat} {v2 : Int32} {h : xH} {o : ((Int32 × xH) ⊕ xH)} {R : Option xV} {H' : xH} (hD : 1 ≤ d) (hf : f_Sets_addUp_32_24_s6 i0 v2 h = some o) (K1 : ∀ (w2 : Int32) (h1 : xH), o = Sum.inl (w2, h1) → xEv g l d 29 6 [(0, xr 32 (some i0)), (1, xr 24 (some 0)), (2, xi w2)] [] h1 R H') (K0 : ∀ (h1 : xH), o = Sum.inr (h1) → R = none ∧ H' = h1) : xEv g l d 29 6 [(0, xr 32 (some i0)), (1, xr 24 (some 0)), (2, xi v2)] [] h R H' := by
  unfold f_Sets_addUp_32_24_s6 at hf
  refine xs_iload_n d29_6 rfl ?_
  refine xs_sipush (v := 256) d29_7 (by decide) ?_
  rcases lk_if hf with ⟨hc2, hf⟩ | ⟨hc2, hf⟩
  · refine xs_icmp_ge (tgt := 38) d29_10 (by decide) (fun _ => ?_) (fun hn => absurd hc2 hn)
    obtain ⟨eR, eH⟩ := K0 _ (Option.some.inj hf).symm
    subst eR; subst eH
    exact xs_vret d29_38 rt29
  · refine xs_icmp_ge (tgt := 38) d29_10 (by decide) (fun hp => absurd hp hc2) (fun _ => ?_)
    refine xs_iload_n d29_13 rfl ?_
    obtain ⟨r3, hc4, hf⟩ := lk_b hf
    refine xe_calls1 (as := [xi v2]) (st := []) (h2 := h) (d2 := d - 1) d29_14 ky29 ml116 st254 rfl na254 (Nat.le_of_ble_eq_true rfl) (by omega) (f_Integer_numberOfTrailingZeros_ok (by omega) hc4) ?_
    refine xe_istore_n (v := r3) (ls2 := [(0, xr 32 (some i0)), (1, xr 24 (some 0)), (2, xi v2), (3, xi r3)]) d29_17 mx29 (by decide) rfl rfl ?_
    refine xs_aload_n d29_18 rfl ?_
    refine xs_iload_n d29_19 rfl ?_
    refine xs_aload_n d29_20 rfl ?_
    refine xs_iload_n d29_21 rfl ?_
    refine xs_iload_n d29_22 rfl ?_
    refine xs_iconst (v := 1) d29_23 (by decide) ?_
    refine xs_isub d29_24 ?_
    refine xs_iand d29_25 ?_
    obtain ⟨hin5, hf⟩ := lk_g hf
    refine xe_iald d29_26 (by decide) ak24 hin5 ?_
    refine xs_aload_n d29_27 rfl ?_
    refine xs_iload_n d29_28 rfl ?_
    obtain ⟨hin6, hf⟩ := lk_g hf
    refine xe_iald d29_29 (by decide) ak32 hin6 ?_
    refine xs_iadd d29_30 ?_
    obtain ⟨hin7, hf⟩ := lk_g hf
    obtain ⟨h8, eh8, hf⟩ := lk_let hf
    refine xe_iast d29_31 (by decide) ak24 hin7  eh8 ?_
    obtain ⟨v2_9, ev2_9, hf⟩ := lk_let hf
    refine xe_iinc (v := v2_9) (b := 1) (ls2 := [(0, xr 32 (some i0)), (1, xr 24 (some 0)), (2, xi v2_9), (3, xi r3)]) d29_32 mx29 (by decide) rfl (by decide) ev2_9 rfl ?_
    refine xs_goto (tgt := 6) d29_35 (by decide) ?_
    refine xs_pick [0, 1, 2] rfl ?_
    exact K1 _ _ (Option.some.inj hf).symm
noncomputable def f_Sets_addUp_32_24_l6 (i0 : Nat) (v2 : Int32) (h : xH) : Option xH :=
  whl (fun s => f_Sets_addUp_32_24_s6 i0 s.1 s.2) (v2, h)
theorem f_Sets_addUp_32_24_l6_ok {g : xG} {l : Launch} {d : Nat} {i0 : Nat} {v2 : Int32} {h : xH} {o : xH} {R : Option xV} {H' : xH} (hD : 1 ≤ d) (hf : f_Sets_addUp_32_24_l6 i0 v2 h = some o) (K0 : ∀ (h1 : xH), o = h1 → R = none ∧ H' = h1) : xEv g l d 29 6 [(0, xr 32 (some i0)), (1, xr 24 (some 0)), (2, xi v2)] [] h R H' := by
  obtain ⟨n, hn⟩ := whl_iff.mp hf
  clear hf
  induction n generalizing v2 h with
  | zero => cases hn
  | succ n ih =>
    obtain ⟨o2, hs, hn⟩ := lk_b (show (f_Sets_addUp_32_24_s6 i0 v2 h).bind (fun o => Sum.elim (itn _ n) some o) = some o from hn)
    exact f_Sets_addUp_32_24_s6_ok hD hs (fun u0 u1 e => ih (by rw [e] at hn; exact hn)) (fun u0 e => K0 u0 (by rw [e] at hn; exact (Option.some.inj hn).symm))
noncomputable def f_Sets_addUp_32_24_e (i0 : Nat) (h : xH) : Option xH :=
  xlet (xsA h 24 0 (upd (h.2.2.2.1 24 0) ((0 : Int32)).toNatClampNeg (0 : Int32))) fun h1 =>
  f_Sets_addUp_32_24_l6 i0 (1 : Int32) h1
set_option maxHeartbeats 4000000 in
set_option maxRecDepth 100000 in
theorem f_Sets_addUp_32_24_e_ok {g : xG} {l : Launch} {d : Nat} {i0 : Nat} {h : xH} {o : xH} {R : Option xV} {H' : xH} (hD : 1 ≤ d) (hf : f_Sets_addUp_32_24_e i0 h = some o) (K0 : ∀ (h1 : xH), o = h1 → R = none ∧ H' = h1) : xEv g l d 29 0 [(0, xr 32 (some i0)), (1, xr 24 (some 0))] [] h R H' := by
  unfold f_Sets_addUp_32_24_e at hf
  refine xs_aload_n d29_0 rfl ?_
  refine xs_iconst (v := 0) d29_1 (by decide) ?_
  refine xs_iconst (v := 0) d29_2 (by decide) ?_
  obtain ⟨h1, eh1, hf⟩ := lk_let hf
  refine xe_iast d29_3 (by decide) ak24 (show xib (0 : Int32) 256 by decide)  eh1 ?_
  refine xs_iconst (v := 1) d29_4 (by decide) ?_
  refine xe_istore_n (v := (1 : Int32)) (ls2 := [(0, xr 32 (some i0)), (1, xr 24 (some 0)), (2, xi (1 : Int32))]) d29_5 mx29 (by decide) rfl rfl ?_
  exact f_Sets_addUp_32_24_l6_ok hD hf K0
noncomputable def f_Sets_addUp_32_24 (i0 : Nat) (h : xH) : Option xH := f_Sets_addUp_32_24_e i0 h
theorem f_Sets_addUp_32_24_ok {g : xG} {l : Launch} {d : Nat} {i0 : Nat} {h : xH} {h1 : xH} (hD : 1 ≤ d) (hf : f_Sets_addUp_32_24 i0 h = some h1) : xC g l d 29 [xr 32 (some i0), xr 24 (some 0)] h none h1 :=
  xC_of (by decide) (Nat.le_of_ble_eq_true rfl) (f_Sets_addUp_32_24_e_ok hD hf (fun _ e => ⟨rfl, e⟩))
theorem d31_0 : decode (xcode 31) 0 = .ok (.iconst 0, 1) := by decide +kernel
theorem d31_1 : decode (xcode 31) 1 = .ok (.istore_n 3, 1) := by decide +kernel
theorem d31_2 : decode (xcode 31) 2 = .ok (.iload_n 3, 1) := by decide +kernel
theorem d31_3 : decode (xcode 31) 3 = .ok (.sipush 256, 3) := by decide +kernel
theorem d31_6 : decode (xcode 31) 6 = .ok (.if_icmp .ge 150, 3) := by decide +kernel
theorem d31_9 : decode (xcode 31) 9 = .ok (.aload_n 0, 1) := by decide +kernel
theorem d31_10 : decode (xcode 31) 10 = .ok (.getfield 24, 3) := by decide +kernel
theorem d31_13 : decode (xcode 31) 13 = .ok (.iload_n 3, 1) := by decide +kernel
theorem d31_14 : decode (xcode 31) 14 = .ok (.iload_n 3, 1) := by decide +kernel
theorem d31_15 : decode (xcode 31) 15 = .ok (.ifCond .ne 7, 3) := by decide +kernel
theorem d31_18 : decode (xcode 31) 18 = .ok (.iconst 1, 1) := by decide +kernel
theorem d31_19 : decode (xcode 31) 19 = .ok (.goto 4, 3) := by decide +kernel
theorem d31_22 : decode (xcode 31) 22 = .ok (.iconst 0, 1) := by decide +kernel
theorem d31_23 : decode (xcode 31) 23 = .ok (.bastore, 1) := by decide +kernel
theorem d31_24 : decode (xcode 31) 24 = .ok (.iload_n 3, 1) := by decide +kernel
theorem d31_25 : decode (xcode 31) 25 = .ok (.aload_n 2, 1) := by decide +kernel
theorem d31_26 : decode (xcode 31) 26 = .ok (.getfield 68, 3) := by decide +kernel
theorem d31_29 : decode (xcode 31) 29 = .ok (.iconst (-1), 1) := by decide +kernel
theorem d31_30 : decode (xcode 31) 30 = .ok (.ixor, 1) := by decide +kernel
theorem d31_31 : decode (xcode 31) 31 = .ok (.iand, 1) := by decide +kernel
theorem d31_32 : decode (xcode 31) 32 = .ok (.ifCond .ne 25, 3) := by decide +kernel
theorem d31_35 : decode (xcode 31) 35 = .ok (.aload_n 2, 1) := by decide +kernel
theorem d31_36 : decode (xcode 31) 36 = .ok (.getfield 72, 3) := by decide +kernel
theorem d31_39 : decode (xcode 31) 39 = .ok (.aload_n 0, 1) := by decide +kernel
theorem d31_40 : decode (xcode 31) 40 = .ok (.getfield 18, 3) := by decide +kernel
theorem d31_43 : decode (xcode 31) 43 = .ok (.iload_n 3, 1) := by decide +kernel
theorem d31_44 : decode (xcode 31) 44 = .ok (.iaload, 1) := by decide +kernel
theorem d31_45 : decode (xcode 31) 45 = .ok (.iadd, 1) := by decide +kernel
theorem d31_46 : decode (xcode 31) 46 = .ok (.aload_n 1, 1) := by decide +kernel
theorem d31_47 : decode (xcode 31) 47 = .ok (.getfield 75, 3) := by decide +kernel
theorem d31_50 : decode (xcode 31) 50 = .ok (.if_icmp .gt 7, 3) := by decide +kernel
theorem d31_53 : decode (xcode 31) 53 = .ok (.iconst 1, 1) := by decide +kernel
theorem d31_54 : decode (xcode 31) 54 = .ok (.goto 4, 3) := by decide +kernel
theorem d31_57 : decode (xcode 31) 57 = .ok (.iconst 0, 1) := by decide +kernel
theorem d31_58 : decode (xcode 31) 58 = .ok (.istore 4, 2) := by decide +kernel
theorem d31_60 : decode (xcode 31) 60 = .ok (.iconst 0, 1) := by decide +kernel
theorem d31_61 : decode (xcode 31) 61 = .ok (.istore 5, 2) := by decide +kernel
theorem d31_63 : decode (xcode 31) 63 = .ok (.iload 5, 2) := by decide +kernel
theorem d31_65 : decode (xcode 31) 65 = .ok (.bipush 8, 2) := by decide +kernel
theorem d31_67 : decode (xcode 31) 67 = .ok (.if_icmp .ge 83, 3) := by decide +kernel
theorem d31_70 : decode (xcode 31) 70 = .ok (.iload 4, 2) := by decide +kernel
theorem d31_72 : decode (xcode 31) 72 = .ok (.ifCond .eq 78, 3) := by decide +kernel
theorem d31_75 : decode (xcode 31) 75 = .ok (.aload_n 0, 1) := by decide +kernel
theorem d31_76 : decode (xcode 31) 76 = .ok (.getfield 24, 3) := by decide +kernel
theorem d31_79 : decode (xcode 31) 79 = .ok (.iload_n 3, 1) := by decide +kernel
theorem d31_80 : decode (xcode 31) 80 = .ok (.baload, 1) := by decide +kernel
theorem d31_81 : decode (xcode 31) 81 = .ok (.ifCond .ne 69, 3) := by decide +kernel
theorem d31_84 : decode (xcode 31) 84 = .ok (.iload_n 3, 1) := by decide +kernel
theorem d31_85 : decode (xcode 31) 85 = .ok (.iconst 1, 1) := by decide +kernel
theorem d31_86 : decode (xcode 31) 86 = .ok (.iload 5, 2) := by decide +kernel
theorem d31_88 : decode (xcode 31) 88 = .ok (.ishl, 1) := by decide +kernel
theorem d31_89 : decode (xcode 31) 89 = .ok (.iconst (-1), 1) := by decide +kernel
theorem d31_90 : decode (xcode 31) 90 = .ok (.ixor, 1) := by decide +kernel
theorem d31_91 : decode (xcode 31) 91 = .ok (.iand, 1) := by decide +kernel
theorem d31_92 : decode (xcode 31) 92 = .ok (.istore 6, 2) := by decide +kernel
theorem d31_94 : decode (xcode 31) 94 = .ok (.aload_n 0, 1) := by decide +kernel
theorem d31_95 : decode (xcode 31) 95 = .ok (.getfield 24, 3) := by decide +kernel
theorem d31_98 : decode (xcode 31) 98 = .ok (.iload_n 3, 1) := by decide +kernel
theorem d31_99 : decode (xcode 31) 99 = .ok (.iload_n 3, 1) := by decide +kernel
theorem d31_100 : decode (xcode 31) 100 = .ok (.iload 5, 2) := by decide +kernel
theorem d31_102 : decode (xcode 31) 102 = .ok (.invokestatic 78, 3) := by decide +kernel
theorem d31_105 : decode (xcode 31) 105 = .ok (.ifCond .eq 37, 3) := by decide +kernel
theorem d31_108 : decode (xcode 31) 108 = .ok (.aload_n 0, 1) := by decide +kernel
theorem d31_109 : decode (xcode 31) 109 = .ok (.getfield 24, 3) := by decide +kernel
theorem d31_112 : decode (xcode 31) 112 = .ok (.iload 6, 2) := by decide +kernel
theorem d31_114 : decode (xcode 31) 114 = .ok (.baload, 1) := by decide +kernel
theorem d31_115 : decode (xcode 31) 115 = .ok (.ifCond .eq 27, 3) := by decide +kernel
theorem d31_118 : decode (xcode 31) 118 = .ok (.aload_n 2, 1) := by decide +kernel
theorem d31_119 : decode (xcode 31) 119 = .ok (.getfield 82, 3) := by decide +kernel
theorem d31_122 : decode (xcode 31) 122 = .ok (.iload 5, 2) := by decide +kernel
theorem d31_124 : decode (xcode 31) 124 = .ok (.iaload, 1) := by decide +kernel
theorem d31_125 : decode (xcode 31) 125 = .ok (.aload_n 2, 1) := by decide +kernel
theorem d31_126 : decode (xcode 31) 126 = .ok (.getfield 68, 3) := by decide +kernel
theorem d31_129 : decode (xcode 31) 129 = .ok (.iand, 1) := by decide +kernel
theorem d31_130 : decode (xcode 31) 130 = .ok (.iload 6, 2) := by decide +kernel
theorem d31_132 : decode (xcode 31) 132 = .ok (.iconst (-1), 1) := by decide +kernel
theorem d31_133 : decode (xcode 31) 133 = .ok (.ixor, 1) := by decide +kernel
theorem d31_134 : decode (xcode 31) 134 = .ok (.iand, 1) := by decide +kernel
theorem d31_135 : decode (xcode 31) 135 = .ok (.ifCond .ne 7, 3) := by decide +kernel
theorem d31_138 : decode (xcode 31) 138 = .ok (.iconst 1, 1) := by decide +kernel
theorem d31_139 : decode (xcode 31) 139 = .ok (.goto 4, 3) := by decide +kernel
theorem d31_142 : decode (xcode 31) 142 = .ok (.iconst 0, 1) := by decide +kernel
theorem d31_143 : decode (xcode 31) 143 = .ok (.bastore, 1) := by decide +kernel
theorem d31_144 : decode (xcode 31) 144 = .ok (.iinc 5 1, 3) := by decide +kernel
theorem d31_147 : decode (xcode 31) 147 = .ok (.goto (-84), 3) := by decide +kernel
theorem d31_150 : decode (xcode 31) 150 = .ok (.iinc 3 1, 3) := by decide +kernel
theorem d31_153 : decode (xcode 31) 153 = .ok (.goto (-151), 3) := by decide +kernel
theorem d31_156 : decode (xcode 31) 156 = .ok (.return_, 1) := by decide +kernel
noncomputable def f_Sets_findOpenSets_b150 (i1 : Nat) (i2 : Nat) (v3 : Int32) (h : xH) : Option ((Int32 × xH) ⊕ xH) :=
  xlet (v3 + (1 : Int32)) fun v3_10 =>
  some (Sum.inl (v3_10, h))
set_option maxHeartbeats 4000000 in
set_option maxRecDepth 100000 in
theorem f_Sets_findOpenSets_b150_ok {g : xG} {l : Launch} {d : Nat} {i1 : Nat} {i2 : Nat} {v3 : Int32} {h : xH} {o : ((Int32 × xH) ⊕ xH)} {R : Option xV} {H' : xH} (hD : 1 ≤ d) (hf : f_Sets_findOpenSets_b150 i1 i2 v3 h = some o) (K1 : ∀ (w3 : Int32) (h1 : xH), o = Sum.inl (w3, h1) → xEv g l d 31 2 [(0, xr 5 (some 0)), (1, xr 8 (some i1)), (2, xr 6 (some i2)), (3, xi w3)] [] h1 R H') (K0 : ∀ (h1 : xH), o = Sum.inr (h1) → R = none ∧ H' = h1) : xEv g l d 31 150 [(0, xr 5 (some 0)), (1, xr 8 (some i1)), (2, xr 6 (some i2)), (3, xi v3)] [] h R H' := by
  unfold f_Sets_findOpenSets_b150 at hf
  obtain ⟨v3_10, ev3_10, hf⟩ := lk_let hf
  refine xe_iinc (v := v3_10) (b := 1) (ls2 := [(0, xr 5 (some 0)), (1, xr 8 (some i1)), (2, xr 6 (some i2)), (3, xi v3_10)]) d31_150 mx31 (by decide) rfl (by decide) ev3_10 rfl ?_
  refine xs_goto (tgt := 2) d31_153 (by decide) ?_
  exact K1 _ _ (Option.some.inj hf).symm
noncomputable def f_Sets_findOpenSets_b143 (i1 : Nat) (i2 : Nat) (v3 : Int32) (v4 : Int32) (v5 : Int32) (t0 : Int32) (t1 : Int32) (h : xH) : Option ((Int32 × xH) ⊕ ((Int32 × xH) ⊕ xH)) :=
  if xib t1 256 then (
  if t0 = 0 ∨ t0 = 1 then (
  xlet (xsA h 26 0 (upd (h.2.2.2.1 26 0) (t1).toNatClampNeg t0)) fun h19 =>
  xlet (v5 + (1 : Int32)) fun v5_21 =>
  some (Sum.inl (v5_21, h19))) else none) else none
set_option maxHeartbeats 4000000 in
set_option maxRecDepth 100000 in
theorem f_Sets_findOpenSets_b143_ok {g : xG} {l : Launch} {d : Nat} {i1 : Nat} {i2 : Nat} {v3 : Int32} {v4 : Int32} {v5 : Int32} {t0 : Int32} {t1 : Int32} {h : xH} {o : ((Int32 × xH) ⊕ ((Int32 × xH) ⊕ xH))} {R : Option xV} {H' : xH} (hD : 1 ≤ d) (hf : f_Sets_findOpenSets_b143 i1 i2 v3 v4 v5 t0 t1 h = some o) (K1 : ∀ (w3 : Int32) (h1 : xH), o = Sum.inr (Sum.inl (w3, h1)) → xEv g l d 31 2 [(0, xr 5 (some 0)), (1, xr 8 (some i1)), (2, xr 6 (some i2)), (3, xi w3)] [] h1 R H') (K2 : ∀ (w5 : Int32) (h1 : xH), o = Sum.inl (w5, h1) → xEv g l d 31 63 [(0, xr 5 (some 0)), (1, xr 8 (some i1)), (2, xr 6 (some i2)), (3, xi v3), (4, xi v4), (5, xi w5)] [] h1 R H') (K0 : ∀ (h1 : xH), o = Sum.inr (Sum.inr (h1)) → R = none ∧ H' = h1) : xEv g l d 31 143 [(0, xr 5 (some 0)), (1, xr 8 (some i1)), (2, xr 6 (some i2)), (3, xi v3), (4, xi v4), (5, xi v5)] [xi t0, xi t1, xr 26 (some 0)] h R H' := by
  unfold f_Sets_findOpenSets_b143 at hf
  obtain ⟨hin18, hf⟩ := lk_g hf
  obtain ⟨hz20, hf⟩ := lk_g hf
  obtain ⟨h19, eh19, hf⟩ := lk_let hf
  refine xe_zast d31_143 (by decide) ak26 hin18 hz20 eh19 ?_
  obtain ⟨v5_21, ev5_21, hf⟩ := lk_let hf
  refine xe_iinc (v := v5_21) (b := 1) (ls2 := [(0, xr 5 (some 0)), (1, xr 8 (some i1)), (2, xr 6 (some i2)), (3, xi v3), (4, xi v4), (5, xi v5_21)]) d31_144 mx31 (by decide) rfl (by decide) ev5_21 rfl ?_
  refine xs_goto (tgt := 63) d31_147 (by decide) ?_
  exact K2 _ _ (Option.some.inj hf).symm
noncomputable def f_Sets_findOpenSets_b142 (i1 : Nat) (i2 : Nat) (v3 : Int32) (v4 : Int32) (v5 : Int32) (t0 : Int32) (h : xH) : Option ((Int32 × xH) ⊕ ((Int32 × xH) ⊕ xH)) :=
  f_Sets_findOpenSets_b143 i1 i2 v3 v4 v5 (0 : Int32) t0 h
set_option maxHeartbeats 4000000 in
set_option maxRecDepth 100000 in
theorem f_Sets_findOpenSets_b142_ok {g : xG} {l : Launch} {d : Nat} {i1 : Nat} {i2 : Nat} {v3 : Int32} {v4 : Int32} {v5 : Int32} {t0 : Int32} {h : xH} {o : ((Int32 × xH) ⊕ ((Int32 × xH) ⊕ xH))} {R : Option xV} {H' : xH} (hD : 1 ≤ d) (hf : f_Sets_findOpenSets_b142 i1 i2 v3 v4 v5 t0 h = some o) (K1 : ∀ (w3 : Int32) (h1 : xH), o = Sum.inr (Sum.inl (w3, h1)) → xEv g l d 31 2 [(0, xr 5 (some 0)), (1, xr 8 (some i1)), (2, xr 6 (some i2)), (3, xi w3)] [] h1 R H') (K2 : ∀ (w5 : Int32) (h1 : xH), o = Sum.inl (w5, h1) → xEv g l d 31 63 [(0, xr 5 (some 0)), (1, xr 8 (some i1)), (2, xr 6 (some i2)), (3, xi v3), (4, xi v4), (5, xi w5)] [] h1 R H') (K0 : ∀ (h1 : xH), o = Sum.inr (Sum.inr (h1)) → R = none ∧ H' = h1) : xEv g l d 31 142 [(0, xr 5 (some 0)), (1, xr 8 (some i1)), (2, xr 6 (some i2)), (3, xi v3), (4, xi v4), (5, xi v5)] [xi t0, xr 26 (some 0)] h R H' := by
  unfold f_Sets_findOpenSets_b142 at hf
  refine xs_iconst (v := 0) d31_142 (by decide) ?_
  exact f_Sets_findOpenSets_b143_ok hD hf K1 K2 K0
noncomputable def f_Sets_findOpenSets_s63 (i1 : Nat) (i2 : Nat) (v3 : Int32) (v4 : Int32) (v5 : Int32) (h : xH) : Option ((Int32 × xH) ⊕ ((Int32 × xH) ⊕ xH)) :=
  if (8 : Int32) ≤ v5 then (
  xup (f_Sets_findOpenSets_b150 i1 i2 v3 h)) else (
  if v4 = (0 : Int32) then (
  xup (f_Sets_findOpenSets_b150 i1 i2 v3 h)) else (
  if xib v3 256 then (
  if (h.2.2.2.1 26 0 (v3).toNatClampNeg) = (0 : Int32) then (
  xlet (v3 &&& (((1 : Int32) <<< (v5 &&& 31)) ^^^ (-1 : Int32))) fun v6_14 =>
  (f_Sets_has v3 v5 h).bind fun r15 =>
  if r15 = (0 : Int32) then (
  f_Sets_findOpenSets_b142 i1 i2 v3 v4 v5 v3 h) else (
  if xib v6_14 256 then (
  if (h.2.2.2.1 26 0 (v6_14).toNatClampNeg) = (0 : Int32) then (
  f_Sets_findOpenSets_b142 i1 i2 v3 v4 v5 v3 h) else (
  if xib v5 8 then (
  if (((h.2.2.2.1 30 i2 (v5).toNatClampNeg) &&& (h.1 6 2 i2)) &&& (v6_14 ^^^ (-1 : Int32))) = (0 : Int32) then (
  f_Sets_findOpenSets_b143 i1 i2 v3 v4 v5 (1 : Int32) v3 h) else (
  f_Sets_findOpenSets_b142 i1 i2 v3 v4 v5 v3 h)) else none)) else none)) else (
  xup (f_Sets_findOpenSets_b150 i1 i2 v3 h))) else none))
set_option maxHeartbeats 4000000 in
set_option maxRecDepth 100000 in
theorem f_Sets_findOpenSets_s63_ok {g : xG} {l : Launch} {d : Nat} {i1 : Nat} {i2 : Nat} {v3 : Int32} {v4 : Int32} {v5 : Int32} {h : xH} {o : ((Int32 × xH) ⊕ ((Int32 × xH) ⊕ xH))} {R : Option xV} {H' : xH} (hD : 1 ≤ d) (hf : f_Sets_findOpenSets_s63 i1 i2 v3 v4 v5 h = some o) (K1 : ∀ (w3 : Int32) (h1 : xH), o = Sum.inr (Sum.inl (w3, h1)) → xEv g l d 31 2 [(0, xr 5 (some 0)), (1, xr 8 (some i1)), (2, xr 6 (some i2)), (3, xi w3)] [] h1 R H') (K2 : ∀ (w5 : Int32) (h1 : xH), o = Sum.inl (w5, h1) → xEv g l d 31 63 [(0, xr 5 (some 0)), (1, xr 8 (some i1)), (2, xr 6 (some i2)), (3, xi v3), (4, xi v4), (5, xi w5)] [] h1 R H') (K0 : ∀ (h1 : xH), o = Sum.inr (Sum.inr (h1)) → R = none ∧ H' = h1) : xEv g l d 31 63 [(0, xr 5 (some 0)), (1, xr 8 (some i1)), (2, xr 6 (some i2)), (3, xi v3), (4, xi v4), (5, xi v5)] [] h R H' := by
  unfold f_Sets_findOpenSets_s63 at hf
  refine xs_iload d31_63 rfl ?_
  refine xs_bipush (v := 8) d31_65 (by decide) ?_
  rcases lk_if hf with ⟨hc9, hf⟩ | ⟨hc9, hf⟩
  · refine xs_icmp_ge (tgt := 150) d31_67 (by decide) (fun _ => ?_) (fun hn => absurd hc9 hn)
    refine xs_pick [0, 1, 2, 3] rfl ?_
    obtain ⟨x0, hf, ex0⟩ := lk_up hf
    exact f_Sets_findOpenSets_b150_ok hD hf (fun u0 u1 e => K1 u0 u1 (ex0.trans (congrArg Sum.inr e))) (fun u0 e => K0 u0 (ex0.trans (congrArg Sum.inr e)))
  · refine xs_icmp_ge (tgt := 150) d31_67 (by decide) (fun hp => absurd hp hc9) (fun _ => ?_)
    refine xs_iload d31_70 rfl ?_
    rcases lk_if hf with ⟨hc11, hf⟩ | ⟨hc11, hf⟩
    · refine xs_if_eq (tgt := 150) d31_72 (by decide) (fun _ => ?_) (fun hn => absurd hc11 hn)
      refine xs_pick [0, 1, 2, 3] rfl ?_
      obtain ⟨x0, hf, ex0⟩ := lk_up hf
      exact f_Sets_findOpenSets_b150_ok hD hf (fun u0 u1 e => K1 u0 u1 (ex0.trans (congrArg Sum.inr e))) (fun u0 e => K0 u0 (ex0.trans (congrArg Sum.inr e)))
    · refine xs_if_eq (tgt := 150) d31_72 (by decide) (fun hp => absurd hp hc11) (fun _ => ?_)
      refine xs_aload_n d31_75 rfl ?_
      refine xe_getc (j := 0) d31_76 ky31 fl137 fk5_11 rfl ?_
      refine xs_iload_n d31_79 rfl ?_
      obtain ⟨hin12, hf⟩ := lk_g hf
      refine xe_zald d31_80 (by decide) ak26 hin12 ?_
      rcases lk_if hf with ⟨hc13, hf⟩ | ⟨hc13, hf⟩
      · refine xs_if_ne (tgt := 150) d31_81 (by decide) (fun _ => ?_) (fun hn => absurd hc13 hn)
        refine xs_iload_n d31_84 rfl ?_
        refine xs_iconst (v := 1) d31_85 (by decide) ?_
        refine xs_iload d31_86 rfl ?_
        refine xs_ishl d31_88 ?_
        refine xs_iconst (v := -1) d31_89 (by decide) ?_
        refine xs_ixor d31_90 ?_
        refine xs_iand d31_91 ?_
        obtain ⟨v6_14, ev6_14, hf⟩ := lk_let hf
        refine xe_istore (v := v6_14) (ls2 := [(0, xr 5 (some 0)), (1, xr 8 (some i1)), (2, xr 6 (some i2)), (3, xi v3), (4, xi v4), (5, xi v5), (6, xi v6_14)]) d31_92 mx31 (by decide) ev6_14 rfl ?_
        refine xs_aload_n d31_94 rfl ?_
        refine xe_getc (j := 0) d31_95 ky31 fl137 fk5_11 rfl ?_
        refine xs_iload_n d31_98 rfl ?_
        refine xs_iload_n d31_99 rfl ?_
        refine xs_iload d31_100 rfl ?_
        obtain ⟨r15, hc16, hf⟩ := lk_b hf
        refine xe_calls1 (as := [xi v3, xi v5]) (st := [xi v3, xr 26 (some 0)]) (h2 := h) (d2 := d - 1) d31_102 ky31 ml118 st28 rfl na28 (Nat.le_of_ble_eq_true rfl) (by omega) (f_Sets_has_ok (by omega) hc16) ?_
        rcases lk_if hf with ⟨hc17, hf⟩ | ⟨hc17, hf⟩
        · refine xs_if_eq (tgt := 142) d31_105 (by decide) (fun _ => ?_) (fun hn => absurd hc17 hn)
          refine xs_pick [0, 1, 2, 3, 4, 5] rfl ?_
          exact f_Sets_findOpenSets_b142_ok hD hf K1 K2 K0
        · refine xs_if_eq (tgt := 142) d31_105 (by decide) (fun hp => absurd hp hc17) (fun _ => ?_)
          refine xs_aload_n d31_108 rfl ?_
          refine xe_getc (j := 0) d31_109 ky31 fl137 fk5_11 rfl ?_
          refine xs_iload d31_112 rfl ?_
          obtain ⟨hin22, hf⟩ := lk_g hf
          refine xe_zald d31_114 (by decide) ak26 hin22 ?_
          rcases lk_if hf with ⟨hc23, hf⟩ | ⟨hc23, hf⟩
          · refine xs_if_eq (tgt := 142) d31_115 (by decide) (fun _ => ?_) (fun hn => absurd hc23 hn)
            refine xs_pick [0, 1, 2, 3, 4, 5] rfl ?_
            exact f_Sets_findOpenSets_b142_ok hD hf K1 K2 K0
          · refine xs_if_eq (tgt := 142) d31_115 (by decide) (fun hp => absurd hp hc23) (fun _ => ?_)
            refine xs_aload_n d31_118 rfl ?_
            refine xe_getc (j := i2) d31_119 ky31 fl85 fk6_5 (by omega) ?_
            refine xs_iload d31_122 rfl ?_
            obtain ⟨hin24, hf⟩ := lk_g hf
            refine xe_iald d31_124 (by decide) ak30 hin24 ?_
            refine xs_aload_n d31_125 rfl ?_
            refine xe_geti d31_126 ky31 fl76 fk6_2 ?_
            refine xs_iand d31_129 ?_
            refine xs_iload d31_130 rfl ?_
            refine xs_iconst (v := -1) d31_132 (by decide) ?_
            refine xs_ixor d31_133 ?_
            refine xs_iand d31_134 ?_
            rcases lk_if hf with ⟨hc25, hf⟩ | ⟨hc25, hf⟩
            · refine xs_if_ne (tgt := 142) d31_135 (by decide) (fun _ => ?_) (fun hn => absurd hc25 hn)
              refine xs_iconst (v := 1) d31_138 (by decide) ?_
              refine xs_goto (tgt := 143) d31_139 (by decide) ?_
              refine xs_pick [0, 1, 2, 3, 4, 5] rfl ?_
              exact f_Sets_findOpenSets_b143_ok hD hf K1 K2 K0
            · refine xs_if_ne (tgt := 142) d31_135 (by decide) (fun hp => absurd hp hc25) (fun _ => ?_)
              refine xs_pick [0, 1, 2, 3, 4, 5] rfl ?_
              exact f_Sets_findOpenSets_b142_ok hD hf K1 K2 K0
      · refine xs_if_ne (tgt := 150) d31_81 (by decide) (fun hp => absurd hp hc13) (fun _ => ?_)
        refine xs_pick [0, 1, 2, 3] rfl ?_
        obtain ⟨x0, hf, ex0⟩ := lk_up hf
        exact f_Sets_findOpenSets_b150_ok hD hf (fun u0 u1 e => K1 u0 u1 (ex0.trans (congrArg Sum.inr e))) (fun u0 e => K0 u0 (ex0.trans (congrArg Sum.inr e)))
noncomputable def f_Sets_findOpenSets_l63 (i1 : Nat) (i2 : Nat) (v3 : Int32) (v4 : Int32) (v5 : Int32) (h : xH) : Option ((Int32 × xH) ⊕ xH) :=
  whl (fun s => f_Sets_findOpenSets_s63 i1 i2 v3 v4 s.1 s.2) (v5, h)
theorem f_Sets_findOpenSets_l63_ok {g : xG} {l : Launch} {d : Nat} {i1 : Nat} {i2 : Nat} {v3 : Int32} {v4 : Int32} {v5 : Int32} {h : xH} {o : ((Int32 × xH) ⊕ xH)} {R : Option xV} {H' : xH} (hD : 1 ≤ d) (hf : f_Sets_findOpenSets_l63 i1 i2 v3 v4 v5 h = some o) (K1 : ∀ (w3 : Int32) (h1 : xH), o = Sum.inl (w3, h1) → xEv g l d 31 2 [(0, xr 5 (some 0)), (1, xr 8 (some i1)), (2, xr 6 (some i2)), (3, xi w3)] [] h1 R H') (K0 : ∀ (h1 : xH), o = Sum.inr (h1) → R = none ∧ H' = h1) : xEv g l d 31 63 [(0, xr 5 (some 0)), (1, xr 8 (some i1)), (2, xr 6 (some i2)), (3, xi v3), (4, xi v4), (5, xi v5)] [] h R H' := by
  obtain ⟨n, hn⟩ := whl_iff.mp hf
  clear hf
  induction n generalizing v5 h with
  | zero => cases hn
  | succ n ih =>
    obtain ⟨o2, hs, hn⟩ := lk_b (show (f_Sets_findOpenSets_s63 i1 i2 v3 v4 v5 h).bind (fun o => Sum.elim (itn _ n) some o) = some o from hn)
    exact f_Sets_findOpenSets_s63_ok hD hs (fun u0 u1 e => K1 u0 u1 (by rw [e] at hn; exact (Option.some.inj hn).symm)) (fun u0 u1 e => ih (by rw [e] at hn; exact hn)) (fun u0 e => K0 u0 (by rw [e] at hn; exact (Option.some.inj hn).symm))
noncomputable def f_Sets_findOpenSets_b58 (i1 : Nat) (i2 : Nat) (v3 : Int32) (t0 : Int32) (h : xH) : Option ((Int32 × xH) ⊕ xH) :=
  f_Sets_findOpenSets_l63 i1 i2 v3 t0 (0 : Int32) h
set_option maxHeartbeats 4000000 in
set_option maxRecDepth 100000 in
theorem f_Sets_findOpenSets_b58_ok {g : xG} {l : Launch} {d : Nat} {i1 : Nat} {i2 : Nat} {v3 : Int32} {t0 : Int32} {h : xH} {o : ((Int32 × xH) ⊕ xH)} {R : Option xV} {H' : xH} (hD : 1 ≤ d) (hf : f_Sets_findOpenSets_b58 i1 i2 v3 t0 h = some o) (K1 : ∀ (w3 : Int32) (h1 : xH), o = Sum.inl (w3, h1) → xEv g l d 31 2 [(0, xr 5 (some 0)), (1, xr 8 (some i1)), (2, xr 6 (some i2)), (3, xi w3)] [] h1 R H') (K0 : ∀ (h1 : xH), o = Sum.inr (h1) → R = none ∧ H' = h1) : xEv g l d 31 58 [(0, xr 5 (some 0)), (1, xr 8 (some i1)), (2, xr 6 (some i2)), (3, xi v3)] [xi t0] h R H' := by
  unfold f_Sets_findOpenSets_b58 at hf
  refine xe_istore (v := t0) (ls2 := [(0, xr 5 (some 0)), (1, xr 8 (some i1)), (2, xr 6 (some i2)), (3, xi v3), (4, xi t0)]) d31_58 mx31 (by decide) rfl rfl ?_
  refine xs_iconst (v := 0) d31_60 (by decide) ?_
  refine xe_istore (v := (0 : Int32)) (ls2 := [(0, xr 5 (some 0)), (1, xr 8 (some i1)), (2, xr 6 (some i2)), (3, xi v3), (4, xi t0), (5, xi (0 : Int32))]) d31_61 mx31 (by decide) rfl rfl ?_
  exact f_Sets_findOpenSets_l63_ok hD hf K1 K0
noncomputable def f_Sets_findOpenSets_b57 (i1 : Nat) (i2 : Nat) (v3 : Int32) (h : xH) : Option ((Int32 × xH) ⊕ xH) :=
  f_Sets_findOpenSets_b58 i1 i2 v3 (0 : Int32) h
set_option maxHeartbeats 4000000 in
set_option maxRecDepth 100000 in
theorem f_Sets_findOpenSets_b57_ok {g : xG} {l : Launch} {d : Nat} {i1 : Nat} {i2 : Nat} {v3 : Int32} {h : xH} {o : ((Int32 × xH) ⊕ xH)} {R : Option xV} {H' : xH} (hD : 1 ≤ d) (hf : f_Sets_findOpenSets_b57 i1 i2 v3 h = some o) (K1 : ∀ (w3 : Int32) (h1 : xH), o = Sum.inl (w3, h1) → xEv g l d 31 2 [(0, xr 5 (some 0)), (1, xr 8 (some i1)), (2, xr 6 (some i2)), (3, xi w3)] [] h1 R H') (K0 : ∀ (h1 : xH), o = Sum.inr (h1) → R = none ∧ H' = h1) : xEv g l d 31 57 [(0, xr 5 (some 0)), (1, xr 8 (some i1)), (2, xr 6 (some i2)), (3, xi v3)] [] h R H' := by
  unfold f_Sets_findOpenSets_b57 at hf
  refine xs_iconst (v := 0) d31_57 (by decide) ?_
  exact f_Sets_findOpenSets_b58_ok hD hf K1 K0
noncomputable def f_Sets_findOpenSets_b23 (i1 : Nat) (i2 : Nat) (v3 : Int32) (t0 : Int32) (t1 : Int32) (h : xH) : Option ((Int32 × xH) ⊕ xH) :=
  if xib t1 256 then (
  if t0 = 0 ∨ t0 = 1 then (
  xlet (xsA h 26 0 (upd (h.2.2.2.1 26 0) (t1).toNatClampNeg t0)) fun h4 =>
  if (v3 &&& ((h4.1 6 2 i2) ^^^ (-1 : Int32))) = (0 : Int32) then (
  if xib v3 256 then (
  if (h4.1 8 1 i1) < ((h4.1 6 0 i2) + (h4.2.2.2.1 24 0 (v3).toNatClampNeg)) then (
  f_Sets_findOpenSets_b57 i1 i2 v3 h4) else (
  f_Sets_findOpenSets_b58 i1 i2 v3 (1 : Int32) h4)) else none) else (
  f_Sets_findOpenSets_b57 i1 i2 v3 h4)) else none) else none
set_option maxHeartbeats 4000000 in
set_option maxRecDepth 100000 in
theorem f_Sets_findOpenSets_b23_ok {g : xG} {l : Launch} {d : Nat} {i1 : Nat} {i2 : Nat} {v3 : Int32} {t0 : Int32} {t1 : Int32} {h : xH} {o : ((Int32 × xH) ⊕ xH)} {R : Option xV} {H' : xH} (hD : 1 ≤ d) (hf : f_Sets_findOpenSets_b23 i1 i2 v3 t0 t1 h = some o) (K1 : ∀ (w3 : Int32) (h1 : xH), o = Sum.inl (w3, h1) → xEv g l d 31 2 [(0, xr 5 (some 0)), (1, xr 8 (some i1)), (2, xr 6 (some i2)), (3, xi w3)] [] h1 R H') (K0 : ∀ (h1 : xH), o = Sum.inr (h1) → R = none ∧ H' = h1) : xEv g l d 31 23 [(0, xr 5 (some 0)), (1, xr 8 (some i1)), (2, xr 6 (some i2)), (3, xi v3)] [xi t0, xi t1, xr 26 (some 0)] h R H' := by
  unfold f_Sets_findOpenSets_b23 at hf
  obtain ⟨hin3, hf⟩ := lk_g hf
  obtain ⟨hz5, hf⟩ := lk_g hf
  obtain ⟨h4, eh4, hf⟩ := lk_let hf
  refine xe_zast d31_23 (by decide) ak26 hin3 hz5 eh4 ?_
  refine xs_iload_n d31_24 rfl ?_
  refine xs_aload_n d31_25 rfl ?_
  refine xe_geti d31_26 ky31 fl76 fk6_2 ?_
  refine xs_iconst (v := -1) d31_29 (by decide) ?_
  refine xs_ixor d31_30 ?_
  refine xs_iand d31_31 ?_
  rcases lk_if hf with ⟨hc6, hf⟩ | ⟨hc6, hf⟩
  · refine xs_if_ne (tgt := 57) d31_32 (by decide) (fun _ => ?_) (fun hn => absurd hc6 hn)
    refine xs_aload_n d31_35 rfl ?_
    refine xe_geti d31_36 ky31 fl68 fk6_0 ?_
    refine xs_aload_n d31_39 rfl ?_
    refine xe_getc (j := 0) d31_40 ky31 fl135 fk5_9 rfl ?_
    refine xs_iload_n d31_43 rfl ?_
    obtain ⟨hin7, hf⟩ := lk_g hf
    refine xe_iald d31_44 (by decide) ak24 hin7 ?_
    refine xs_iadd d31_45 ?_
    refine xs_aload_n d31_46 rfl ?_
    refine xe_geti d31_47 ky31 fl23 fk8_1 ?_
    rcases lk_if hf with ⟨hc8, hf⟩ | ⟨hc8, hf⟩
    · refine xs_icmp_gt (tgt := 57) d31_50 (by decide) (fun _ => ?_) (fun hn => absurd hc8 hn)
      exact f_Sets_findOpenSets_b57_ok hD hf K1 K0
    · refine xs_icmp_gt (tgt := 57) d31_50 (by decide) (fun hp => absurd hp hc8) (fun _ => ?_)
      refine xs_iconst (v := 1) d31_53 (by decide) ?_
      refine xs_goto (tgt := 58) d31_54 (by decide) ?_
      exact f_Sets_findOpenSets_b58_ok hD hf K1 K0
  · refine xs_if_ne (tgt := 57) d31_32 (by decide) (fun hp => absurd hp hc6) (fun _ => ?_)
    exact f_Sets_findOpenSets_b57_ok hD hf K1 K0
noncomputable def f_Sets_findOpenSets_s2 (i1 : Nat) (i2 : Nat) (v3 : Int32) (h : xH) : Option ((Int32 × xH) ⊕ xH) :=
  if (256 : Int32) ≤ v3 then (
  some (Sum.inr (h))) else (
  if v3 = (0 : Int32) then (
  f_Sets_findOpenSets_b23 i1 i2 v3 (1 : Int32) v3 h) else (
  f_Sets_findOpenSets_b23 i1 i2 v3 (0 : Int32) v3 h))
set_option maxHeartbeats 4000000 in
set_option maxRecDepth 100000 in
theorem f_Sets_findOpenSets_s2_ok {g : xG} {l : Launch} {d : Nat} {i1 : Nat} {i2 : Nat} {v3 : Int32} {h : xH} {o : ((Int32 × xH) ⊕ xH)} {R : Option xV} {H' : xH} (hD : 1 ≤ d) (hf : f_Sets_findOpenSets_s2 i1 i2 v3 h = some o) (K1 : ∀ (w3 : Int32) (h1 : xH), o = Sum.inl (w3, h1) → xEv g l d 31 2 [(0, xr 5 (some 0)), (1, xr 8 (some i1)), (2, xr 6 (some i2)), (3, xi w3)] [] h1 R H') (K0 : ∀ (h1 : xH), o = Sum.inr (h1) → R = none ∧ H' = h1) : xEv g l d 31 2 [(0, xr 5 (some 0)), (1, xr 8 (some i1)), (2, xr 6 (some i2)), (3, xi v3)] [] h R H' := by
  unfold f_Sets_findOpenSets_s2 at hf
  refine xs_iload_n d31_2 rfl ?_
  refine xs_sipush (v := 256) d31_3 (by decide) ?_
  rcases lk_if hf with ⟨hc1, hf⟩ | ⟨hc1, hf⟩
  · refine xs_icmp_ge (tgt := 156) d31_6 (by decide) (fun _ => ?_) (fun hn => absurd hc1 hn)
    obtain ⟨eR, eH⟩ := K0 _ (Option.some.inj hf).symm
    subst eR; subst eH
    exact xs_vret d31_156 rt31
  · refine xs_icmp_ge (tgt := 156) d31_6 (by decide) (fun hp => absurd hp hc1) (fun _ => ?_)
    refine xs_aload_n d31_9 rfl ?_
    refine xe_getc (j := 0) d31_10 ky31 fl137 fk5_11 rfl ?_
    refine xs_iload_n d31_13 rfl ?_
    refine xs_iload_n d31_14 rfl ?_
    rcases lk_if hf with ⟨hc2, hf⟩ | ⟨hc2, hf⟩
    · refine xs_if_ne (tgt := 22) d31_15 (by decide) (fun _ => ?_) (fun hn => absurd hc2 hn)
      refine xs_iconst (v := 1) d31_18 (by decide) ?_
      refine xs_goto (tgt := 23) d31_19 (by decide) ?_
      exact f_Sets_findOpenSets_b23_ok hD hf K1 K0
    · refine xs_if_ne (tgt := 22) d31_15 (by decide) (fun hp => absurd hp hc2) (fun _ => ?_)
      refine xs_iconst (v := 0) d31_22 (by decide) ?_
      exact f_Sets_findOpenSets_b23_ok hD hf K1 K0
noncomputable def f_Sets_findOpenSets_l2 (i1 : Nat) (i2 : Nat) (v3 : Int32) (h : xH) : Option xH :=
  whl (fun s => f_Sets_findOpenSets_s2 i1 i2 s.1 s.2) (v3, h)
theorem f_Sets_findOpenSets_l2_ok {g : xG} {l : Launch} {d : Nat} {i1 : Nat} {i2 : Nat} {v3 : Int32} {h : xH} {o : xH} {R : Option xV} {H' : xH} (hD : 1 ≤ d) (hf : f_Sets_findOpenSets_l2 i1 i2 v3 h = some o) (K0 : ∀ (h1 : xH), o = h1 → R = none ∧ H' = h1) : xEv g l d 31 2 [(0, xr 5 (some 0)), (1, xr 8 (some i1)), (2, xr 6 (some i2)), (3, xi v3)] [] h R H' := by
  obtain ⟨n, hn⟩ := whl_iff.mp hf
  clear hf
  induction n generalizing v3 h with
  | zero => cases hn
  | succ n ih =>
    obtain ⟨o2, hs, hn⟩ := lk_b (show (f_Sets_findOpenSets_s2 i1 i2 v3 h).bind (fun o => Sum.elim (itn _ n) some o) = some o from hn)
    exact f_Sets_findOpenSets_s2_ok hD hs (fun u0 u1 e => ih (by rw [e] at hn; exact hn)) (fun u0 e => K0 u0 (by rw [e] at hn; exact (Option.some.inj hn).symm))
noncomputable def f_Sets_findOpenSets_e (i1 : Nat) (i2 : Nat) (h : xH) : Option xH :=
  f_Sets_findOpenSets_l2 i1 i2 (0 : Int32) h
set_option maxHeartbeats 4000000 in
set_option maxRecDepth 100000 in
theorem f_Sets_findOpenSets_e_ok {g : xG} {l : Launch} {d : Nat} {i1 : Nat} {i2 : Nat} {h : xH} {o : xH} {R : Option xV} {H' : xH} (hD : 1 ≤ d) (hf : f_Sets_findOpenSets_e i1 i2 h = some o) (K0 : ∀ (h1 : xH), o = h1 → R = none ∧ H' = h1) : xEv g l d 31 0 [(0, xr 5 (some 0)), (1, xr 8 (some i1)), (2, xr 6 (some i2))] [] h R H' := by
  unfold f_Sets_findOpenSets_e at hf
  refine xs_iconst (v := 0) d31_0 (by decide) ?_
  refine xe_istore_n (v := (0 : Int32)) (ls2 := [(0, xr 5 (some 0)), (1, xr 8 (some i1)), (2, xr 6 (some i2)), (3, xi (0 : Int32))]) d31_1 mx31 (by decide) rfl rfl ?_
  exact f_Sets_findOpenSets_l2_ok hD hf K0
noncomputable def f_Sets_findOpenSets (i1 : Nat) (i2 : Nat) (h : xH) : Option xH := f_Sets_findOpenSets_e i1 i2 h
theorem f_Sets_findOpenSets_ok {g : xG} {l : Launch} {d : Nat} {i1 : Nat} {i2 : Nat} {h : xH} {h1 : xH} (hD : 1 ≤ d) (hf : f_Sets_findOpenSets i1 i2 h = some h1) : xC g l d 31 [xr 5 (some 0), xr 8 (some i1), xr 6 (some i2)] h none h1 :=
  xC_of (by decide) (Nat.le_of_ble_eq_true rfl) (f_Sets_findOpenSets_e_ok hD hf (fun _ e => ⟨rfl, e⟩))
theorem d32_0 : decode (xcode 32) 0 = .ok (.aload_n 0, 1) := by decide +kernel
theorem d32_1 : decode (xcode 32) 1 = .ok (.iconst 0, 1) := by decide +kernel
theorem d32_2 : decode (xcode 32) 2 = .ok (.putfield 85, 3) := by decide +kernel
theorem d32_5 : decode (xcode 32) 5 = .ok (.aload_n 0, 1) := by decide +kernel
theorem d32_6 : decode (xcode 32) 6 = .ok (.iconst 0, 1) := by decide +kernel
theorem d32_7 : decode (xcode 32) 7 = .ok (.putfield 88, 3) := by decide +kernel
theorem d32_10 : decode (xcode 32) 10 = .ok (.iconst 1, 1) := by decide +kernel
theorem d32_11 : decode (xcode 32) 11 = .ok (.istore_n 2, 1) := by decide +kernel
theorem d32_12 : decode (xcode 32) 12 = .ok (.iload_n 2, 1) := by decide +kernel
theorem d32_13 : decode (xcode 32) 13 = .ok (.sipush 256, 3) := by decide +kernel
theorem d32_16 : decode (xcode 32) 16 = .ok (.if_icmp .ge 87, 3) := by decide +kernel
theorem d32_19 : decode (xcode 32) 19 = .ok (.aload_n 0, 1) := by decide +kernel
theorem d32_20 : decode (xcode 32) 20 = .ok (.getfield 15, 3) := by decide +kernel
theorem d32_23 : decode (xcode 32) 23 = .ok (.iload_n 2, 1) := by decide +kernel
theorem d32_24 : decode (xcode 32) 24 = .ok (.iaload, 1) := by decide +kernel
theorem d32_25 : decode (xcode 32) 25 = .ok (.aload_n 0, 1) := by decide +kernel
theorem d32_26 : decode (xcode 32) 26 = .ok (.getfield 85, 3) := by decide +kernel
theorem d32_29 : decode (xcode 32) 29 = .ok (.if_icmp .gt 29, 3) := by decide +kernel
theorem d32_32 : decode (xcode 32) 32 = .ok (.aload_n 0, 1) := by decide +kernel
theorem d32_33 : decode (xcode 32) 33 = .ok (.getfield 15, 3) := by decide +kernel
theorem d32_36 : decode (xcode 32) 36 = .ok (.iload_n 2, 1) := by decide +kernel
theorem d32_37 : decode (xcode 32) 37 = .ok (.iaload, 1) := by decide +kernel
theorem d32_38 : decode (xcode 32) 38 = .ok (.aload_n 0, 1) := by decide +kernel
theorem d32_39 : decode (xcode 32) 39 = .ok (.getfield 85, 3) := by decide +kernel
theorem d32_42 : decode (xcode 32) 42 = .ok (.if_icmp .ne 20, 3) := by decide +kernel
theorem d32_45 : decode (xcode 32) 45 = .ok (.aload_n 0, 1) := by decide +kernel
theorem d32_46 : decode (xcode 32) 46 = .ok (.getfield 18, 3) := by decide +kernel
theorem d32_49 : decode (xcode 32) 49 = .ok (.iload_n 2, 1) := by decide +kernel
theorem d32_50 : decode (xcode 32) 50 = .ok (.iaload, 1) := by decide +kernel
theorem d32_51 : decode (xcode 32) 51 = .ok (.aload_n 0, 1) := by decide +kernel
theorem d32_52 : decode (xcode 32) 52 = .ok (.getfield 88, 3) := by decide +kernel
theorem d32_55 : decode (xcode 32) 55 = .ok (.if_icmp .ge 7, 3) := by decide +kernel
theorem d32_58 : decode (xcode 32) 58 = .ok (.iconst 1, 1) := by decide +kernel
theorem d32_59 : decode (xcode 32) 59 = .ok (.goto 4, 3) := by decide +kernel
theorem d32_62 : decode (xcode 32) 62 = .ok (.iconst 0, 1) := by decide +kernel
theorem d32_63 : decode (xcode 32) 63 = .ok (.istore_n 3, 1) := by decide +kernel
theorem d32_64 : decode (xcode 32) 64 = .ok (.aload_n 0, 1) := by decide +kernel
theorem d32_65 : decode (xcode 32) 65 = .ok (.getfield 24, 3) := by decide +kernel
theorem d32_68 : decode (xcode 32) 68 = .ok (.iload_n 2, 1) := by decide +kernel
theorem d32_69 : decode (xcode 32) 69 = .ok (.baload, 1) := by decide +kernel
theorem d32_70 : decode (xcode 32) 70 = .ok (.ifCond .eq 27, 3) := by decide +kernel
theorem d32_73 : decode (xcode 32) 73 = .ok (.iload_n 3, 1) := by decide +kernel
theorem d32_74 : decode (xcode 32) 74 = .ok (.ifCond .eq 23, 3) := by decide +kernel
theorem d32_77 : decode (xcode 32) 77 = .ok (.aload_n 0, 1) := by decide +kernel
theorem d32_78 : decode (xcode 32) 78 = .ok (.aload_n 0, 1) := by decide +kernel
theorem d32_79 : decode (xcode 32) 79 = .ok (.getfield 15, 3) := by decide +kernel
theorem d32_82 : decode (xcode 32) 82 = .ok (.iload_n 2, 1) := by decide +kernel
theorem d32_83 : decode (xcode 32) 83 = .ok (.iaload, 1) := by decide +kernel
theorem d32_84 : decode (xcode 32) 84 = .ok (.putfield 85, 3) := by decide +kernel
theorem d32_87 : decode (xcode 32) 87 = .ok (.aload_n 0, 1) := by decide +kernel
theorem d32_88 : decode (xcode 32) 88 = .ok (.aload_n 0, 1) := by decide +kernel
theorem d32_89 : decode (xcode 32) 89 = .ok (.getfield 18, 3) := by decide +kernel
theorem d32_92 : decode (xcode 32) 92 = .ok (.iload_n 2, 1) := by decide +kernel
theorem d32_93 : decode (xcode 32) 93 = .ok (.iaload, 1) := by decide +kernel
theorem d32_94 : decode (xcode 32) 94 = .ok (.putfield 88, 3) := by decide +kernel
theorem d32_97 : decode (xcode 32) 97 = .ok (.iinc 2 1, 3) := by decide +kernel
theorem d32_100 : decode (xcode 32) 100 = .ok (.goto (-88), 3) := by decide +kernel
theorem d32_103 : decode (xcode 32) 103 = .ok (.return_, 1) := by decide +kernel
noncomputable def f_Sets_findBestSums_b97 (i1 : Nat) (v2 : Int32) (h : xH) : Option ((Int32 × xH) ⊕ xH) :=
  xlet (v2 + (1 : Int32)) fun v2_8 =>
  some (Sum.inl (v2_8, h))
set_option maxHeartbeats 4000000 in
set_option maxRecDepth 100000 in
theorem f_Sets_findBestSums_b97_ok {g : xG} {l : Launch} {d : Nat} {i1 : Nat} {v2 : Int32} {h : xH} {o : ((Int32 × xH) ⊕ xH)} {R : Option xV} {H' : xH} (hD : 0 ≤ d) (hf : f_Sets_findBestSums_b97 i1 v2 h = some o) (K1 : ∀ (w2 : Int32) (h1 : xH), o = Sum.inl (w2, h1) → xEv g l d 32 12 [(0, xr 5 (some 0)), (2, xi w2)] [] h1 R H') (K0 : ∀ (h1 : xH), o = Sum.inr (h1) → R = none ∧ H' = h1) : xEv g l d 32 97 [(0, xr 5 (some 0)), (2, xi v2)] [] h R H' := by
  unfold f_Sets_findBestSums_b97 at hf
  obtain ⟨v2_8, ev2_8, hf⟩ := lk_let hf
  refine xe_iinc (v := v2_8) (b := 1) (ls2 := [(0, xr 5 (some 0)), (2, xi v2_8)]) d32_97 mx32 (by decide) rfl (by decide) ev2_8 rfl ?_
  refine xs_goto (tgt := 12) d32_100 (by decide) ?_
  exact K1 _ _ (Option.some.inj hf).symm
noncomputable def f_Sets_findBestSums_b63 (i1 : Nat) (v2 : Int32) (t0 : Int32) (h : xH) : Option ((Int32 × xH) ⊕ xH) :=
  if xib v2 256 then (
  if (h.2.2.2.1 26 0 (v2).toNatClampNeg) = (0 : Int32) then (
  f_Sets_findBestSums_b97 i1 v2 h) else (
  if t0 = (0 : Int32) then (
  f_Sets_findBestSums_b97 i1 v2 h) else (
  if xib v2 256 then (
  xlet (xsI h 5 2 0 (h.2.2.2.1 23 0 (v2).toNatClampNeg)) fun h11 =>
  if xib v2 256 then (
  xlet (xsI h11 5 3 0 (h11.2.2.2.1 24 0 (v2).toNatClampNeg)) fun h13 =>
  f_Sets_findBestSums_b97 i1 v2 h13) else none) else none))) else none
set_option maxHeartbeats 4000000 in
set_option maxRecDepth 100000 in
theorem f_Sets_findBestSums_b63_ok {g : xG} {l : Launch} {d : Nat} {i1 : Nat} {v2 : Int32} {t0 : Int32} {h : xH} {o : ((Int32 × xH) ⊕ xH)} {R : Option xV} {H' : xH} (hD : 0 ≤ d) (hf : f_Sets_findBestSums_b63 i1 v2 t0 h = some o) (K1 : ∀ (w2 : Int32) (h1 : xH), o = Sum.inl (w2, h1) → xEv g l d 32 12 [(0, xr 5 (some 0)), (2, xi w2)] [] h1 R H') (K0 : ∀ (h1 : xH), o = Sum.inr (h1) → R = none ∧ H' = h1) : xEv g l d 32 63 [(0, xr 5 (some 0)), (2, xi v2)] [xi t0] h R H' := by
  unfold f_Sets_findBestSums_b63 at hf
  refine xe_istore_n (v := t0) (ls2 := [(0, xr 5 (some 0)), (2, xi v2), (3, xi t0)]) d32_63 mx32 (by decide) rfl rfl ?_
  refine xs_aload_n d32_64 rfl ?_
  refine xe_getc (j := 0) d32_65 ky32 fl137 fk5_11 rfl ?_
  refine xs_iload_n d32_68 rfl ?_
  obtain ⟨hin6, hf⟩ := lk_g hf
  refine xe_zald d32_69 (by decide) ak26 hin6 ?_
  rcases lk_if hf with ⟨hc7, hf⟩ | ⟨hc7, hf⟩
  · refine xs_if_eq (tgt := 97) d32_70 (by decide) (fun _ => ?_) (fun hn => absurd hc7 hn)
    refine xs_pick [0, 1] rfl ?_
    exact f_Sets_findBestSums_b97_ok hD hf K1 K0
  · refine xs_if_eq (tgt := 97) d32_70 (by decide) (fun hp => absurd hp hc7) (fun _ => ?_)
    refine xs_iload_n d32_73 rfl ?_
    rcases lk_if hf with ⟨hc9, hf⟩ | ⟨hc9, hf⟩
    · refine xs_if_eq (tgt := 97) d32_74 (by decide) (fun _ => ?_) (fun hn => absurd hc9 hn)
      refine xs_pick [0, 1] rfl ?_
      exact f_Sets_findBestSums_b97_ok hD hf K1 K0
    · refine xs_if_eq (tgt := 97) d32_74 (by decide) (fun hp => absurd hp hc9) (fun _ => ?_)
      refine xs_aload_n d32_77 rfl ?_
      refine xs_aload_n d32_78 rfl ?_
      refine xe_getc (j := 0) d32_79 ky32 fl134 fk5_8 rfl ?_
      refine xs_iload_n d32_82 rfl ?_
      obtain ⟨hin10, hf⟩ := lk_g hf
      refine xe_iald d32_83 (by decide) ak23 hin10 ?_
      obtain ⟨h11, eh11, hf⟩ := lk_let hf
      refine xe_puti d32_84 ky32 fl122 fk5_2 ft5_2 eh11 ?_
      refine xs_aload_n d32_87 rfl ?_
      refine xs_aload_n d32_88 rfl ?_
      refine xe_getc (j := 0) d32_89 ky32 fl135 fk5_9 rfl ?_
      refine xs_iload_n d32_92 rfl ?_
      obtain ⟨hin12, hf⟩ := lk_g hf
      refine xe_iald d32_93 (by decide) ak24 hin12 ?_
      obtain ⟨h13, eh13, hf⟩ := lk_let hf
      refine xe_puti d32_94 ky32 fl124 fk5_3 ft5_3 eh13 ?_
      refine xs_pick [0, 1] rfl ?_
      exact f_Sets_findBestSums_b97_ok hD hf K1 K0
noncomputable def f_Sets_findBestSums_b58 (i1 : Nat) (v2 : Int32) (h : xH) : Option ((Int32 × xH) ⊕ xH) :=
  f_Sets_findBestSums_b63 i1 v2 (1 : Int32) h
set_option maxHeartbeats 4000000 in
set_option maxRecDepth 100000 in
theorem f_Sets_findBestSums_b58_ok {g : xG} {l : Launch} {d : Nat} {i1 : Nat} {v2 : Int32} {h : xH} {o : ((Int32 × xH) ⊕ xH)} {R : Option xV} {H' : xH} (hD : 0 ≤ d) (hf : f_Sets_findBestSums_b58 i1 v2 h = some o) (K1 : ∀ (w2 : Int32) (h1 : xH), o = Sum.inl (w2, h1) → xEv g l d 32 12 [(0, xr 5 (some 0)), (2, xi w2)] [] h1 R H') (K0 : ∀ (h1 : xH), o = Sum.inr (h1) → R = none ∧ H' = h1) : xEv g l d 32 58 [(0, xr 5 (some 0)), (2, xi v2)] [] h R H' := by
  unfold f_Sets_findBestSums_b58 at hf
  refine xs_iconst (v := 1) d32_58 (by decide) ?_
  refine xs_goto (tgt := 63) d32_59 (by decide) ?_
  exact f_Sets_findBestSums_b63_ok hD hf K1 K0
noncomputable def f_Sets_findBestSums_b62 (i1 : Nat) (v2 : Int32) (h : xH) : Option ((Int32 × xH) ⊕ xH) :=
  f_Sets_findBestSums_b63 i1 v2 (0 : Int32) h
set_option maxHeartbeats 4000000 in
set_option maxRecDepth 100000 in
theorem f_Sets_findBestSums_b62_ok {g : xG} {l : Launch} {d : Nat} {i1 : Nat} {v2 : Int32} {h : xH} {o : ((Int32 × xH) ⊕ xH)} {R : Option xV} {H' : xH} (hD : 0 ≤ d) (hf : f_Sets_findBestSums_b62 i1 v2 h = some o) (K1 : ∀ (w2 : Int32) (h1 : xH), o = Sum.inl (w2, h1) → xEv g l d 32 12 [(0, xr 5 (some 0)), (2, xi w2)] [] h1 R H') (K0 : ∀ (h1 : xH), o = Sum.inr (h1) → R = none ∧ H' = h1) : xEv g l d 32 62 [(0, xr 5 (some 0)), (2, xi v2)] [] h R H' := by
  unfold f_Sets_findBestSums_b62 at hf
  refine xs_iconst (v := 0) d32_62 (by decide) ?_
  exact f_Sets_findBestSums_b63_ok hD hf K1 K0
noncomputable def f_Sets_findBestSums_s12 (i1 : Nat) (v2 : Int32) (h : xH) : Option ((Int32 × xH) ⊕ xH) :=
  if (256 : Int32) ≤ v2 then (
  some (Sum.inr (h))) else (
  if xib v2 256 then (
  if (h.1 5 2 0) < (h.2.2.2.1 23 0 (v2).toNatClampNeg) then (
  f_Sets_findBestSums_b58 i1 v2 h) else (
  if xib v2 256 then (
  if (h.2.2.2.1 23 0 (v2).toNatClampNeg) = (h.1 5 2 0) then (
  if xib v2 256 then (
  if (h.1 5 3 0) ≤ (h.2.2.2.1 24 0 (v2).toNatClampNeg) then (
  f_Sets_findBestSums_b62 i1 v2 h) else (
  f_Sets_findBestSums_b58 i1 v2 h)) else none) else (
  f_Sets_findBestSums_b62 i1 v2 h)) else none)) else none)
set_option maxHeartbeats 4000000 in
set_option maxRecDepth 100000 in
theorem f_Sets_findBestSums_s12_ok {g : xG} {l : Launch} {d : Nat} {i1 : Nat} {v2 : Int32} {h : xH} {o : ((Int32 × xH) ⊕ xH)} {R : Option xV} {H' : xH} (hD : 0 ≤ d) (hf : f_Sets_findBestSums_s12 i1 v2 h = some o) (K1 : ∀ (w2 : Int32) (h1 : xH), o = Sum.inl (w2, h1) → xEv g l d 32 12 [(0, xr 5 (some 0)), (2, xi w2)] [] h1 R H') (K0 : ∀ (h1 : xH), o = Sum.inr (h1) → R = none ∧ H' = h1) : xEv g l d 32 12 [(0, xr 5 (some 0)), (2, xi v2)] [] h R H' := by
  unfold f_Sets_findBestSums_s12 at hf
  refine xs_iload_n d32_12 rfl ?_
  refine xs_sipush (v := 256) d32_13 (by decide) ?_
  rcases lk_if hf with ⟨hc3, hf⟩ | ⟨hc3, hf⟩
  · refine xs_icmp_ge (tgt := 103) d32_16 (by decide) (fun _ => ?_) (fun hn => absurd hc3 hn)
    obtain ⟨eR, eH⟩ := K0 _ (Option.some.inj hf).symm
    subst eR; subst eH
    exact xs_vret d32_103 rt32
  · refine xs_icmp_ge (tgt := 103) d32_16 (by decide) (fun hp => absurd hp hc3) (fun _ => ?_)
    refine xs_aload_n d32_19 rfl ?_
    refine xe_getc (j := 0) d32_20 ky32 fl134 fk5_8 rfl ?_
    refine xs_iload_n d32_23 rfl ?_
    obtain ⟨hin4, hf⟩ := lk_g hf
    refine xe_iald d32_24 (by decide) ak23 hin4 ?_
    refine xs_aload_n d32_25 rfl ?_
    refine xe_geti d32_26 ky32 fl122 fk5_2 ?_
    rcases lk_if hf with ⟨hc5, hf⟩ | ⟨hc5, hf⟩
    · refine xs_icmp_gt (tgt := 58) d32_29 (by decide) (fun _ => ?_) (fun hn => absurd hc5 hn)
      exact f_Sets_findBestSums_b58_ok hD hf K1 K0
    · refine xs_icmp_gt (tgt := 58) d32_29 (by decide) (fun hp => absurd hp hc5) (fun _ => ?_)
      refine xs_aload_n d32_32 rfl ?_
      refine xe_getc (j := 0) d32_33 ky32 fl134 fk5_8 rfl ?_
      refine xs_iload_n d32_36 rfl ?_
      obtain ⟨hin14, hf⟩ := lk_g hf
      refine xe_iald d32_37 (by decide) ak23 hin14 ?_
      refine xs_aload_n d32_38 rfl ?_
      refine xe_geti d32_39 ky32 fl122 fk5_2 ?_
      rcases lk_if hf with ⟨hc15, hf⟩ | ⟨hc15, hf⟩
      · refine xs_icmp_ne (tgt := 62) d32_42 (by decide) (fun _ => ?_) (fun hn => absurd hc15 hn)
        refine xs_aload_n d32_45 rfl ?_
        refine xe_getc (j := 0) d32_46 ky32 fl135 fk5_9 rfl ?_
        refine xs_iload_n d32_49 rfl ?_
        obtain ⟨hin16, hf⟩ := lk_g hf
        refine xe_iald d32_50 (by decide) ak24 hin16 ?_
        refine xs_aload_n d32_51 rfl ?_
        refine xe_geti d32_52 ky32 fl124 fk5_3 ?_
        rcases lk_if hf with ⟨hc17, hf⟩ | ⟨hc17, hf⟩
        · refine xs_icmp_ge (tgt := 62) d32_55 (by decide) (fun _ => ?_) (fun hn => absurd hc17 hn)
          exact f_Sets_findBestSums_b62_ok hD hf K1 K0
        · refine xs_icmp_ge (tgt := 62) d32_55 (by decide) (fun hp => absurd hp hc17) (fun _ => ?_)
          exact f_Sets_findBestSums_b58_ok hD hf K1 K0
      · refine xs_icmp_ne (tgt := 62) d32_42 (by decide) (fun hp => absurd hp hc15) (fun _ => ?_)
        exact f_Sets_findBestSums_b62_ok hD hf K1 K0
noncomputable def f_Sets_findBestSums_l12 (i1 : Nat) (v2 : Int32) (h : xH) : Option xH :=
  whl (fun s => f_Sets_findBestSums_s12 i1 s.1 s.2) (v2, h)
theorem f_Sets_findBestSums_l12_ok {g : xG} {l : Launch} {d : Nat} {i1 : Nat} {v2 : Int32} {h : xH} {o : xH} {R : Option xV} {H' : xH} (hD : 0 ≤ d) (hf : f_Sets_findBestSums_l12 i1 v2 h = some o) (K0 : ∀ (h1 : xH), o = h1 → R = none ∧ H' = h1) : xEv g l d 32 12 [(0, xr 5 (some 0)), (2, xi v2)] [] h R H' := by
  obtain ⟨n, hn⟩ := whl_iff.mp hf
  clear hf
  induction n generalizing v2 h with
  | zero => cases hn
  | succ n ih =>
    obtain ⟨o2, hs, hn⟩ := lk_b (show (f_Sets_findBestSums_s12 i1 v2 h).bind (fun o => Sum.elim (itn _ n) some o) = some o from hn)
    exact f_Sets_findBestSums_s12_ok hD hs (fun u0 u1 e => ih (by rw [e] at hn; exact hn)) (fun u0 e => K0 u0 (by rw [e] at hn; exact (Option.some.inj hn).symm))
noncomputable def f_Sets_findBestSums_e (i1 : Nat) (h : xH) : Option xH :=
  xlet (xsI h 5 2 0 (0 : Int32)) fun h1 =>
  xlet (xsI h1 5 3 0 (0 : Int32)) fun h2 =>
  f_Sets_findBestSums_l12 i1 (1 : Int32) h2
set_option maxHeartbeats 4000000 in
set_option maxRecDepth 100000 in
theorem f_Sets_findBestSums_e_ok {g : xG} {l : Launch} {d : Nat} {i1 : Nat} {h : xH} {o : xH} {R : Option xV} {H' : xH} (hD : 0 ≤ d) (hf : f_Sets_findBestSums_e i1 h = some o) (K0 : ∀ (h1 : xH), o = h1 → R = none ∧ H' = h1) : xEv g l d 32 0 [(0, xr 5 (some 0)), (1, xr 6 (some i1))] [] h R H' := by
  unfold f_Sets_findBestSums_e at hf
  refine xs_aload_n d32_0 rfl ?_
  refine xs_iconst (v := 0) d32_1 (by decide) ?_
  obtain ⟨h1, eh1, hf⟩ := lk_let hf
  refine xe_puti d32_2 ky32 fl122 fk5_2 ft5_2 eh1 ?_
  refine xs_aload_n d32_5 rfl ?_
  refine xs_iconst (v := 0) d32_6 (by decide) ?_
  obtain ⟨h2, eh2, hf⟩ := lk_let hf
  refine xe_puti d32_7 ky32 fl124 fk5_3 ft5_3 eh2 ?_
  refine xs_iconst (v := 1) d32_10 (by decide) ?_
  refine xe_istore_n (v := (1 : Int32)) (ls2 := [(0, xr 5 (some 0)), (1, xr 6 (some i1)), (2, xi (1 : Int32))]) d32_11 mx32 (by decide) rfl rfl ?_
  refine xs_pick [0, 2] rfl ?_
  exact f_Sets_findBestSums_l12_ok hD hf K0
noncomputable def f_Sets_findBestSums (i1 : Nat) (h : xH) : Option xH := f_Sets_findBestSums_e i1 h
theorem f_Sets_findBestSums_ok {g : xG} {l : Launch} {d : Nat} {i1 : Nat} {h : xH} {h1 : xH} (hD : 0 ≤ d) (hf : f_Sets_findBestSums i1 h = some h1) : xC g l d 32 [xr 5 (some 0), xr 6 (some i1)] h none h1 :=
  xC_of (by decide) (Nat.le_of_ble_eq_true rfl) (f_Sets_findBestSums_e_ok hD hf (fun _ e => ⟨rfl, e⟩))
theorem d33_0 : decode (xcode 33) 0 = .ok (.aload_n 0, 1) := by decide +kernel
theorem d33_1 : decode (xcode 33) 1 = .ok (.getfield 24, 3) := by decide +kernel
theorem d33_4 : decode (xcode 33) 4 = .ok (.iload_n 1, 1) := by decide +kernel
theorem d33_5 : decode (xcode 33) 5 = .ok (.baload, 1) := by decide +kernel
theorem d33_6 : decode (xcode 33) 6 = .ok (.ifCond .eq 33, 3) := by decide +kernel
theorem d33_9 : decode (xcode 33) 9 = .ok (.aload_n 0, 1) := by decide +kernel
theorem d33_10 : decode (xcode 33) 10 = .ok (.getfield 15, 3) := by decide +kernel
theorem d33_13 : decode (xcode 33) 13 = .ok (.iload_n 1, 1) := by decide +kernel
theorem d33_14 : decode (xcode 33) 14 = .ok (.iaload, 1) := by decide +kernel
theorem d33_15 : decode (xcode 33) 15 = .ok (.aload_n 0, 1) := by decide +kernel
theorem d33_16 : decode (xcode 33) 16 = .ok (.getfield 85, 3) := by decide +kernel
theorem d33_19 : decode (xcode 33) 19 = .ok (.if_icmp .ne 20, 3) := by decide +kernel
theorem d33_22 : decode (xcode 33) 22 = .ok (.aload_n 0, 1) := by decide +kernel
theorem d33_23 : decode (xcode 33) 23 = .ok (.getfield 18, 3) := by decide +kernel
theorem d33_26 : decode (xcode 33) 26 = .ok (.iload_n 1, 1) := by decide +kernel
theorem d33_27 : decode (xcode 33) 27 = .ok (.iaload, 1) := by decide +kernel
theorem d33_28 : decode (xcode 33) 28 = .ok (.aload_n 0, 1) := by decide +kernel
theorem d33_29 : decode (xcode 33) 29 = .ok (.getfield 88, 3) := by decide +kernel
theorem d33_32 : decode (xcode 33) 32 = .ok (.if_icmp .ne 7, 3) := by decide +kernel
theorem d33_35 : decode (xcode 33) 35 = .ok (.iconst 1, 1) := by decide +kernel
theorem d33_36 : decode (xcode 33) 36 = .ok (.goto 4, 3) := by decide +kernel
theorem d33_39 : decode (xcode 33) 39 = .ok (.iconst 0, 1) := by decide +kernel
theorem d33_40 : decode (xcode 33) 40 = .ok (.ireturn, 1) := by decide +kernel
noncomputable def f_Sets_isBest_e (v1 : Int32) (h : xH) : Option Int32 :=
  if xib v1 256 then (
  if (h.2.2.2.1 26 0 (v1).toNatClampNeg) = (0 : Int32) then (
  some ((0 : Int32))) else (
  if xib v1 256 then (
  if (h.2.2.2.1 23 0 (v1).toNatClampNeg) = (h.1 5 2 0) then (
  if xib v1 256 then (
  if (h.2.2.2.1 24 0 (v1).toNatClampNeg) = (h.1 5 3 0) then (
  some ((1 : Int32))) else (
  some ((0 : Int32)))) else none) else (
  some ((0 : Int32)))) else none)) else none
set_option maxHeartbeats 4000000 in
set_option maxRecDepth 100000 in
theorem f_Sets_isBest_e_ok {g : xG} {l : Launch} {d : Nat} {v1 : Int32} {h : xH} {o : Int32} {R : Option xV} (hD : 0 ≤ d) (hf : f_Sets_isBest_e v1 h = some o) (K0 : ∀ (a : Int32), o = a → R = some (xi a)) : xEv g l d 33 0 [(0, xr 5 (some 0)), (1, xi v1)] [] h R h := by
  unfold f_Sets_isBest_e at hf
  refine xs_aload_n d33_0 rfl ?_
  refine xe_getc (j := 0) d33_1 ky33 fl137 fk5_11 rfl ?_
  refine xs_iload_n d33_4 rfl ?_
  obtain ⟨hin1, hf⟩ := lk_g hf
  refine xe_zald d33_5 (by decide) ak26 hin1 ?_
  rcases lk_if hf with ⟨hc2, hf⟩ | ⟨hc2, hf⟩
  · refine xs_if_eq (tgt := 39) d33_6 (by decide) (fun _ => ?_) (fun hn => absurd hc2 hn)
    refine xs_iconst (v := 0) d33_39 (by decide) ?_
    obtain eR := K0 _ (Option.some.inj hf).symm
    subst eR
    exact xe_zret d33_40 (Or.inl rfl) rt33
  · refine xs_if_eq (tgt := 39) d33_6 (by decide) (fun hp => absurd hp hc2) (fun _ => ?_)
    refine xs_aload_n d33_9 rfl ?_
    refine xe_getc (j := 0) d33_10 ky33 fl134 fk5_8 rfl ?_
    refine xs_iload_n d33_13 rfl ?_
    obtain ⟨hin3, hf⟩ := lk_g hf
    refine xe_iald d33_14 (by decide) ak23 hin3 ?_
    refine xs_aload_n d33_15 rfl ?_
    refine xe_geti d33_16 ky33 fl122 fk5_2 ?_
    rcases lk_if hf with ⟨hc4, hf⟩ | ⟨hc4, hf⟩
    · refine xs_icmp_ne (tgt := 39) d33_19 (by decide) (fun _ => ?_) (fun hn => absurd hc4 hn)
      refine xs_aload_n d33_22 rfl ?_
      refine xe_getc (j := 0) d33_23 ky33 fl135 fk5_9 rfl ?_
      refine xs_iload_n d33_26 rfl ?_
      obtain ⟨hin5, hf⟩ := lk_g hf
      refine xe_iald d33_27 (by decide) ak24 hin5 ?_
      refine xs_aload_n d33_28 rfl ?_
      refine xe_geti d33_29 ky33 fl124 fk5_3 ?_
      rcases lk_if hf with ⟨hc6, hf⟩ | ⟨hc6, hf⟩
      · refine xs_icmp_ne (tgt := 39) d33_32 (by decide) (fun _ => ?_) (fun hn => absurd hc6 hn)
        refine xs_iconst (v := 1) d33_35 (by decide) ?_
        refine xs_goto (tgt := 40) d33_36 (by decide) ?_
        obtain eR := K0 _ (Option.some.inj hf).symm
        subst eR
        exact xe_zret d33_40 (Or.inr rfl) rt33
      · refine xs_icmp_ne (tgt := 39) d33_32 (by decide) (fun hp => absurd hp hc6) (fun _ => ?_)
        refine xs_iconst (v := 0) d33_39 (by decide) ?_
        obtain eR := K0 _ (Option.some.inj hf).symm
        subst eR
        exact xe_zret d33_40 (Or.inl rfl) rt33
    · refine xs_icmp_ne (tgt := 39) d33_19 (by decide) (fun hp => absurd hp hc4) (fun _ => ?_)
      refine xs_iconst (v := 0) d33_39 (by decide) ?_
      obtain eR := K0 _ (Option.some.inj hf).symm
      subst eR
      exact xe_zret d33_40 (Or.inl rfl) rt33
noncomputable def f_Sets_isBest (v1 : Int32) (h : xH) : Option Int32 := f_Sets_isBest_e v1 h
theorem f_Sets_isBest_ok {g : xG} {l : Launch} {d : Nat} {v1 : Int32} {h : xH} {r : Int32} (hD : 0 ≤ d) (hf : f_Sets_isBest v1 h = some r) : xC g l d 33 [xr 5 (some 0), xi v1] h (some (xi r)) h :=
  xC_of (by decide) (Nat.le_of_ble_eq_true rfl) (f_Sets_isBest_e_ok hD hf (fun _ e => by rw [e]))
theorem d34_0 : decode (xcode 34) 0 = .ok (.aload_n 1, 1) := by decide +kernel
theorem d34_1 : decode (xcode 34) 1 = .ok (.iload_n 3, 1) := by decide +kernel
theorem d34_2 : decode (xcode 34) 2 = .ok (.invokevirtual 91, 3) := by decide +kernel
theorem d34_5 : decode (xcode 34) 5 = .ok (.ifCond .eq 46, 3) := by decide +kernel
theorem d34_8 : decode (xcode 34) 8 = .ok (.iload_n 2, 1) := by decide +kernel
theorem d34_9 : decode (xcode 34) 9 = .ok (.iload_n 3, 1) := by decide +kernel
theorem d34_10 : decode (xcode 34) 10 = .ok (.invokestatic 78, 3) := by decide +kernel
theorem d34_13 : decode (xcode 34) 13 = .ok (.ifCond .ne 38, 3) := by decide +kernel
theorem d34_16 : decode (xcode 34) 16 = .ok (.aload_n 1, 1) := by decide +kernel
theorem d34_17 : decode (xcode 34) 17 = .ok (.getfield 82, 3) := by decide +kernel
theorem d34_20 : decode (xcode 34) 20 = .ok (.iload_n 3, 1) := by decide +kernel
theorem d34_21 : decode (xcode 34) 21 = .ok (.iaload, 1) := by decide +kernel
theorem d34_22 : decode (xcode 34) 22 = .ok (.aload_n 1, 1) := by decide +kernel
theorem d34_23 : decode (xcode 34) 23 = .ok (.getfield 68, 3) := by decide +kernel
theorem d34_26 : decode (xcode 34) 26 = .ok (.iand, 1) := by decide +kernel
theorem d34_27 : decode (xcode 34) 27 = .ok (.iload_n 2, 1) := by decide +kernel
theorem d34_28 : decode (xcode 34) 28 = .ok (.iconst (-1), 1) := by decide +kernel
theorem d34_29 : decode (xcode 34) 29 = .ok (.ixor, 1) := by decide +kernel
theorem d34_30 : decode (xcode 34) 30 = .ok (.iand, 1) := by decide +kernel
theorem d34_31 : decode (xcode 34) 31 = .ok (.ifCond .ne 20, 3) := by decide +kernel
theorem d34_34 : decode (xcode 34) 34 = .ok (.aload_n 0, 1) := by decide +kernel
theorem d34_35 : decode (xcode 34) 35 = .ok (.getfield 28, 3) := by decide +kernel
theorem d34_38 : decode (xcode 34) 38 = .ok (.iload_n 2, 1) := by decide +kernel
theorem d34_39 : decode (xcode 34) 39 = .ok (.iconst 1, 1) := by decide +kernel
theorem d34_40 : decode (xcode 34) 40 = .ok (.iload_n 3, 1) := by decide +kernel
theorem d34_41 : decode (xcode 34) 41 = .ok (.ishl, 1) := by decide +kernel
theorem d34_42 : decode (xcode 34) 42 = .ok (.ior, 1) := by decide +kernel
theorem d34_43 : decode (xcode 34) 43 = .ok (.baload, 1) := by decide +kernel
theorem d34_44 : decode (xcode 34) 44 = .ok (.ifCond .eq 7, 3) := by decide +kernel
theorem d34_47 : decode (xcode 34) 47 = .ok (.iconst 1, 1) := by decide +kernel
theorem d34_48 : decode (xcode 34) 48 = .ok (.goto 4, 3) := by decide +kernel
theorem d34_51 : decode (xcode 34) 51 = .ok (.iconst 0, 1) := by decide +kernel
theorem d34_52 : decode (xcode 34) 52 = .ok (.ireturn, 1) := by decide +kernel
noncomputable def f_Sets_leadsOn_e (i1 : Nat) (v2 : Int32) (v3 : Int32) (h : xH) : Option Int32 :=
  (f_State_isIn i1 v3 h).bind fun r1 =>
  if r1 = (0 : Int32) then (
  some ((0 : Int32))) else (
  (f_Sets_has v2 v3 h).bind fun r4 =>
  if r4 = (0 : Int32) then (
  if xib v3 8 then (
  if (((h.2.2.2.1 30 i1 (v3).toNatClampNeg) &&& (h.1 6 2 i1)) &&& (v2 ^^^ (-1 : Int32))) = (0 : Int32) then (
  if xib (v2 ||| ((1 : Int32) <<< (v3 &&& 31))) 256 then (
  if (h.2.2.2.1 27 0 (v2 ||| ((1 : Int32) <<< (v3 &&& 31))).toNatClampNeg) = (0 : Int32) then (
  some ((0 : Int32))) else (
  some ((1 : Int32)))) else none) else (
  some ((0 : Int32)))) else none) else (
  some ((0 : Int32))))
set_option maxHeartbeats 4000000 in
set_option maxRecDepth 100000 in
theorem f_Sets_leadsOn_e_ok {g : xG} {l : Launch} {d : Nat} {i1 : Nat} {v2 : Int32} {v3 : Int32} {h : xH} {o : Int32} {R : Option xV} (hD : 1 ≤ d) (hf : f_Sets_leadsOn_e i1 v2 v3 h = some o) (K0 : ∀ (a : Int32), o = a → R = some (xi a)) : xEv g l d 34 0 [(0, xr 5 (some 0)), (1, xr 6 (some i1)), (2, xi v2), (3, xi v3)] [] h R h := by
  unfold f_Sets_leadsOn_e at hf
  refine xs_aload_n d34_0 rfl ?_
  refine xs_iload_n d34_1 rfl ?_
  obtain ⟨r1, hc2, hf⟩ := lk_b hf
  refine xe_callv1 (as := [xi v3]) (st := []) (h2 := h) (d2 := d - 1) d34_2 ky34 ml123 st47 (by decide) cn47 rfl na47 (Nat.le_of_ble_eq_true rfl) (by omega) (f_State_isIn_ok (by omega) hc2) ?_
  rcases lk_if hf with ⟨hc3, hf⟩ | ⟨hc3, hf⟩
  · refine xs_if_eq (tgt := 51) d34_5 (by decide) (fun _ => ?_) (fun hn => absurd hc3 hn)
    refine xs_iconst (v := 0) d34_51 (by decide) ?_
    obtain eR := K0 _ (Option.some.inj hf).symm
    subst eR
    exact xe_zret d34_52 (Or.inl rfl) rt34
  · refine xs_if_eq (tgt := 51) d34_5 (by decide) (fun hp => absurd hp hc3) (fun _ => ?_)
    refine xs_iload_n d34_8 rfl ?_
    refine xs_iload_n d34_9 rfl ?_
    obtain ⟨r4, hc5, hf⟩ := lk_b hf
    refine xe_calls1 (as := [xi v2, xi v3]) (st := []) (h2 := h) (d2 := d - 1) d34_10 ky34 ml118 st28 rfl na28 (Nat.le_of_ble_eq_true rfl) (by omega) (f_Sets_has_ok (by omega) hc5) ?_
    rcases lk_if hf with ⟨hc6, hf⟩ | ⟨hc6, hf⟩
    · refine xs_if_ne (tgt := 51) d34_13 (by decide) (fun _ => ?_) (fun hn => absurd hc6 hn)
      refine xs_aload_n d34_16 rfl ?_
      refine xe_getc (j := i1) d34_17 ky34 fl85 fk6_5 (by omega) ?_
      refine xs_iload_n d34_20 rfl ?_
      obtain ⟨hin7, hf⟩ := lk_g hf
      refine xe_iald d34_21 (by decide) ak30 hin7 ?_
      refine xs_aload_n d34_22 rfl ?_
      refine xe_geti d34_23 ky34 fl76 fk6_2 ?_
      refine xs_iand d34_26 ?_
      refine xs_iload_n d34_27 rfl ?_
      refine xs_iconst (v := -1) d34_28 (by decide) ?_
      refine xs_ixor d34_29 ?_
      refine xs_iand d34_30 ?_
      rcases lk_if hf with ⟨hc8, hf⟩ | ⟨hc8, hf⟩
      · refine xs_if_ne (tgt := 51) d34_31 (by decide) (fun _ => ?_) (fun hn => absurd hc8 hn)
        refine xs_aload_n d34_34 rfl ?_
        refine xe_getc (j := 0) d34_35 ky34 fl138 fk5_12 rfl ?_
        refine xs_iload_n d34_38 rfl ?_
        refine xs_iconst (v := 1) d34_39 (by decide) ?_
        refine xs_iload_n d34_40 rfl ?_
        refine xs_ishl d34_41 ?_
        refine xs_ior d34_42 ?_
        obtain ⟨hin9, hf⟩ := lk_g hf
        refine xe_zald d34_43 (by decide) ak27 hin9 ?_
        rcases lk_if hf with ⟨hc10, hf⟩ | ⟨hc10, hf⟩
        · refine xs_if_eq (tgt := 51) d34_44 (by decide) (fun _ => ?_) (fun hn => absurd hc10 hn)
          refine xs_iconst (v := 0) d34_51 (by decide) ?_
          obtain eR := K0 _ (Option.some.inj hf).symm
          subst eR
          exact xe_zret d34_52 (Or.inl rfl) rt34
        · refine xs_if_eq (tgt := 51) d34_44 (by decide) (fun hp => absurd hp hc10) (fun _ => ?_)
          refine xs_iconst (v := 1) d34_47 (by decide) ?_
          refine xs_goto (tgt := 52) d34_48 (by decide) ?_
          obtain eR := K0 _ (Option.some.inj hf).symm
          subst eR
          exact xe_zret d34_52 (Or.inr rfl) rt34
      · refine xs_if_ne (tgt := 51) d34_31 (by decide) (fun hp => absurd hp hc8) (fun _ => ?_)
        refine xs_iconst (v := 0) d34_51 (by decide) ?_
        obtain eR := K0 _ (Option.some.inj hf).symm
        subst eR
        exact xe_zret d34_52 (Or.inl rfl) rt34
    · refine xs_if_ne (tgt := 51) d34_13 (by decide) (fun hp => absurd hp hc6) (fun _ => ?_)
      refine xs_iconst (v := 0) d34_51 (by decide) ?_
      obtain eR := K0 _ (Option.some.inj hf).symm
      subst eR
      exact xe_zret d34_52 (Or.inl rfl) rt34
noncomputable def f_Sets_leadsOn (i1 : Nat) (v2 : Int32) (v3 : Int32) (h : xH) : Option Int32 := f_Sets_leadsOn_e i1 v2 v3 h
theorem f_Sets_leadsOn_ok {g : xG} {l : Launch} {d : Nat} {i1 : Nat} {v2 : Int32} {v3 : Int32} {h : xH} {r : Int32} (hD : 1 ≤ d) (hf : f_Sets_leadsOn i1 v2 v3 h = some r) : xC g l d 34 [xr 5 (some 0), xr 6 (some i1), xi v2, xi v3] h (some (xi r)) h :=
  xC_of (by decide) (Nat.le_of_ble_eq_true rfl) (f_Sets_leadsOn_e_ok hD hf (fun _ e => by rw [e]))
theorem d35_0 : decode (xcode 35) 0 = .ok (.sipush 255, 3) := by decide +kernel
theorem d35_3 : decode (xcode 35) 3 = .ok (.istore_n 2, 1) := by decide +kernel
theorem d35_4 : decode (xcode 35) 4 = .ok (.iload_n 2, 1) := by decide +kernel
theorem d35_5 : decode (xcode 35) 5 = .ok (.ifCond .lt 65, 3) := by decide +kernel
theorem d35_8 : decode (xcode 35) 8 = .ok (.aload_n 0, 1) := by decide +kernel
theorem d35_9 : decode (xcode 35) 9 = .ok (.getfield 28, 3) := by decide +kernel
theorem d35_12 : decode (xcode 35) 12 = .ok (.iload_n 2, 1) := by decide +kernel
theorem d35_13 : decode (xcode 35) 13 = .ok (.aload_n 0, 1) := by decide +kernel
theorem d35_14 : decode (xcode 35) 14 = .ok (.iload_n 2, 1) := by decide +kernel
theorem d35_15 : decode (xcode 35) 15 = .ok (.invokevirtual 95, 3) := by decide +kernel
theorem d35_18 : decode (xcode 35) 18 = .ok (.bastore, 1) := by decide +kernel
theorem d35_19 : decode (xcode 35) 19 = .ok (.iconst 0, 1) := by decide +kernel
theorem d35_20 : decode (xcode 35) 20 = .ok (.istore_n 3, 1) := by decide +kernel
theorem d35_21 : decode (xcode 35) 21 = .ok (.iload_n 3, 1) := by decide +kernel
theorem d35_22 : decode (xcode 35) 22 = .ok (.bipush 8, 2) := by decide +kernel
theorem d35_24 : decode (xcode 35) 24 = .ok (.if_icmp .ge 40, 3) := by decide +kernel
theorem d35_27 : decode (xcode 35) 27 = .ok (.aload_n 0, 1) := by decide +kernel
theorem d35_28 : decode (xcode 35) 28 = .ok (.getfield 24, 3) := by decide +kernel
theorem d35_31 : decode (xcode 35) 31 = .ok (.iload_n 2, 1) := by decide +kernel
theorem d35_32 : decode (xcode 35) 32 = .ok (.baload, 1) := by decide +kernel
theorem d35_33 : decode (xcode 35) 33 = .ok (.ifCond .eq 31, 3) := by decide +kernel
theorem d35_36 : decode (xcode 35) 36 = .ok (.aload_n 0, 1) := by decide +kernel
theorem d35_37 : decode (xcode 35) 37 = .ok (.getfield 28, 3) := by decide +kernel
theorem d35_40 : decode (xcode 35) 40 = .ok (.iload_n 2, 1) := by decide +kernel
theorem d35_41 : decode (xcode 35) 41 = .ok (.baload, 1) := by decide +kernel
theorem d35_42 : decode (xcode 35) 42 = .ok (.ifCond .ne 22, 3) := by decide +kernel
theorem d35_45 : decode (xcode 35) 45 = .ok (.aload_n 0, 1) := by decide +kernel
theorem d35_46 : decode (xcode 35) 46 = .ok (.getfield 28, 3) := by decide +kernel
theorem d35_49 : decode (xcode 35) 49 = .ok (.iload_n 2, 1) := by decide +kernel
theorem d35_50 : decode (xcode 35) 50 = .ok (.aload_n 0, 1) := by decide +kernel
theorem d35_51 : decode (xcode 35) 51 = .ok (.aload_n 1, 1) := by decide +kernel
theorem d35_52 : decode (xcode 35) 52 = .ok (.iload_n 2, 1) := by decide +kernel
theorem d35_53 : decode (xcode 35) 53 = .ok (.iload_n 3, 1) := by decide +kernel
theorem d35_54 : decode (xcode 35) 54 = .ok (.invokevirtual 98, 3) := by decide +kernel
theorem d35_57 : decode (xcode 35) 57 = .ok (.bastore, 1) := by decide +kernel
theorem d35_58 : decode (xcode 35) 58 = .ok (.iinc 3 1, 3) := by decide +kernel
theorem d35_61 : decode (xcode 35) 61 = .ok (.goto (-40), 3) := by decide +kernel
theorem d35_64 : decode (xcode 35) 64 = .ok (.iinc 2 (-1), 3) := by decide +kernel
theorem d35_67 : decode (xcode 35) 67 = .ok (.goto (-63), 3) := by decide +kernel
theorem d35_70 : decode (xcode 35) 70 = .ok (.return_, 1) := by decide +kernel
noncomputable def f_Sets_markGoodSets_b64 (i1 : Nat) (v2 : Int32) (h : xH) : Option ((Int32 × xH) ⊕ xH) :=
  xlet (v2 + (-1 : Int32)) fun v2_8 =>
  some (Sum.inl (v2_8, h))
set_option maxHeartbeats 4000000 in
set_option maxRecDepth 100000 in
theorem f_Sets_markGoodSets_b64_ok {g : xG} {l : Launch} {d : Nat} {i1 : Nat} {v2 : Int32} {h : xH} {o : ((Int32 × xH) ⊕ xH)} {R : Option xV} {H' : xH} (hD : 2 ≤ d) (hf : f_Sets_markGoodSets_b64 i1 v2 h = some o) (K1 : ∀ (w2 : Int32) (h1 : xH), o = Sum.inl (w2, h1) → xEv g l d 35 4 [(0, xr 5 (some 0)), (1, xr 6 (some i1)), (2, xi w2)] [] h1 R H') (K0 : ∀ (h1 : xH), o = Sum.inr (h1) → R = none ∧ H' = h1) : xEv g l d 35 64 [(0, xr 5 (some 0)), (1, xr 6 (some i1)), (2, xi v2)] [] h R H' := by
  unfold f_Sets_markGoodSets_b64 at hf
  obtain ⟨v2_8, ev2_8, hf⟩ := lk_let hf
  refine xe_iinc (v := v2_8) (b := -1) (ls2 := [(0, xr 5 (some 0)), (1, xr 6 (some i1)), (2, xi v2_8)]) d35_64 mx35 (by decide) rfl (by decide) ev2_8 rfl ?_
  refine xs_goto (tgt := 4) d35_67 (by decide) ?_
  exact K1 _ _ (Option.some.inj hf).symm
noncomputable def f_Sets_markGoodSets_s21 (i1 : Nat) (v2 : Int32) (v3 : Int32) (h : xH) : Option ((Int32 × xH) ⊕ ((Int32 × xH) ⊕ xH)) :=
  if (8 : Int32) ≤ v3 then (
  xup (f_Sets_markGoodSets_b64 i1 v2 h)) else (
  if xib v2 256 then (
  if (h.2.2.2.1 26 0 (v2).toNatClampNeg) = (0 : Int32) then (
  xup (f_Sets_markGoodSets_b64 i1 v2 h)) else (
  if xib v2 256 then (
  if (h.2.2.2.1 27 0 (v2).toNatClampNeg) = (0 : Int32) then (
  (f_Sets_leadsOn i1 v2 v3 h).bind fun r13 =>
  if xib v2 256 then (
  if r13 = 0 ∨ r13 = 1 then (
  xlet (xsA h 27 0 (upd (h.2.2.2.1 27 0) (v2).toNatClampNeg r13)) fun h16 =>
  xlet (v3 + (1 : Int32)) fun v3_18 =>
  some (Sum.inl (v3_18, h16))) else none) else none) else (
  xup (f_Sets_markGoodSets_b64 i1 v2 h))) else none)) else none)
set_option maxHeartbeats 4000000 in
set_option maxRecDepth 100000 in
theorem f_Sets_markGoodSets_s21_ok {g : xG} {l : Launch} {d : Nat} {i1 : Nat} {v2 : Int32} {v3 : Int32} {h : xH} {o : ((Int32 × xH) ⊕ ((Int32 × xH) ⊕ xH))} {R : Option xV} {H' : xH} (hD : 2 ≤ d) (hf : f_Sets_markGoodSets_s21 i1 v2 v3 h = some o) (K1 : ∀ (w2 : Int32) (h1 : xH), o = Sum.inr (Sum.inl (w2, h1)) → xEv g l d 35 4 [(0, xr 5 (some 0)), (1, xr 6 (some i1)), (2, xi w2)] [] h1 R H') (K2 : ∀ (w3 : Int32) (h1 : xH), o = Sum.inl (w3, h1) → xEv g l d 35 21 [(0, xr 5 (some 0)), (1, xr 6 (some i1)), (2, xi v2), (3, xi w3)] [] h1 R H') (K0 : ∀ (h1 : xH), o = Sum.inr (Sum.inr (h1)) → R = none ∧ H' = h1) : xEv g l d 35 21 [(0, xr 5 (some 0)), (1, xr 6 (some i1)), (2, xi v2), (3, xi v3)] [] h R H' := by
  unfold f_Sets_markGoodSets_s21 at hf
  refine xs_iload_n d35_21 rfl ?_
  refine xs_bipush (v := 8) d35_22 (by decide) ?_
  rcases lk_if hf with ⟨hc7, hf⟩ | ⟨hc7, hf⟩
  · refine xs_icmp_ge (tgt := 64) d35_24 (by decide) (fun _ => ?_) (fun hn => absurd hc7 hn)
    refine xs_pick [0, 1, 2] rfl ?_
    obtain ⟨x0, hf, ex0⟩ := lk_up hf
    exact f_Sets_markGoodSets_b64_ok hD hf (fun u0 u1 e => K1 u0 u1 (ex0.trans (congrArg Sum.inr e))) (fun u0 e => K0 u0 (ex0.trans (congrArg Sum.inr e)))
  · refine xs_icmp_ge (tgt := 64) d35_24 (by decide) (fun hp => absurd hp hc7) (fun _ => ?_)
    refine xs_aload_n d35_27 rfl ?_
    refine xe_getc (j := 0) d35_28 ky35 fl137 fk5_11 rfl ?_
    refine xs_iload_n d35_31 rfl ?_
    obtain ⟨hin9, hf⟩ := lk_g hf
    refine xe_zald d35_32 (by decide) ak26 hin9 ?_
    rcases lk_if hf with ⟨hc10, hf⟩ | ⟨hc10, hf⟩
    · refine xs_if_eq (tgt := 64) d35_33 (by decide) (fun _ => ?_) (fun hn => absurd hc10 hn)
      refine xs_pick [0, 1, 2] rfl ?_
      obtain ⟨x0, hf, ex0⟩ := lk_up hf
      exact f_Sets_markGoodSets_b64_ok hD hf (fun u0 u1 e => K1 u0 u1 (ex0.trans (congrArg Sum.inr e))) (fun u0 e => K0 u0 (ex0.trans (congrArg Sum.inr e)))
    · refine xs_if_eq (tgt := 64) d35_33 (by decide) (fun hp => absurd hp hc10) (fun _ => ?_)
      refine xs_aload_n d35_36 rfl ?_
      refine xe_getc (j := 0) d35_37 ky35 fl138 fk5_12 rfl ?_
      refine xs_iload_n d35_40 rfl ?_
      obtain ⟨hin11, hf⟩ := lk_g hf
      refine xe_zald d35_41 (by decide) ak27 hin11 ?_
      rcases lk_if hf with ⟨hc12, hf⟩ | ⟨hc12, hf⟩
      · refine xs_if_ne (tgt := 64) d35_42 (by decide) (fun _ => ?_) (fun hn => absurd hc12 hn)
        refine xs_aload_n d35_45 rfl ?_
        refine xe_getc (j := 0) d35_46 ky35 fl138 fk5_12 rfl ?_
        refine xs_iload_n d35_49 rfl ?_
        refine xs_aload_n d35_50 rfl ?_
        refine xs_aload_n d35_51 rfl ?_
        refine xs_iload_n d35_52 rfl ?_
        refine xs_iload_n d35_53 rfl ?_
        obtain ⟨r13, hc14, hf⟩ := lk_b hf
        refine xe_callv1 (as := [xr 6 (some i1), xi v2, xi v3]) (st := [xi v2, xr 27 (some 0)]) (h2 := h) (d2 := d - 1) d35_54 ky35 ml122 st34 (by decide) cn34 rfl na34 (Nat.le_of_ble_eq_true rfl) (by omega) (f_Sets_leadsOn_ok (by omega) hc14) ?_
        obtain ⟨hin15, hf⟩ := lk_g hf
        obtain ⟨hz17, hf⟩ := lk_g hf
        obtain ⟨h16, eh16, hf⟩ := lk_let hf
        refine xe_zast d35_57 (by decide) ak27 hin15 hz17 eh16 ?_
        obtain ⟨v3_18, ev3_18, hf⟩ := lk_let hf
        refine xe_iinc (v := v3_18) (b := 1) (ls2 := [(0, xr 5 (some 0)), (1, xr 6 (some i1)), (2, xi v2), (3, xi v3_18)]) d35_58 mx35 (by decide) rfl (by decide) ev3_18 rfl ?_
        refine xs_goto (tgt := 21) d35_61 (by decide) ?_
        exact K2 _ _ (Option.some.inj hf).symm
      · refine xs_if_ne (tgt := 64) d35_42 (by decide) (fun hp => absurd hp hc12) (fun _ => ?_)
        refine xs_pick [0, 1, 2] rfl ?_
        obtain ⟨x0, hf, ex0⟩ := lk_up hf
        exact f_Sets_markGoodSets_b64_ok hD hf (fun u0 u1 e => K1 u0 u1 (ex0.trans (congrArg Sum.inr e))) (fun u0 e => K0 u0 (ex0.trans (congrArg Sum.inr e)))
noncomputable def f_Sets_markGoodSets_l21 (i1 : Nat) (v2 : Int32) (v3 : Int32) (h : xH) : Option ((Int32 × xH) ⊕ xH) :=
  whl (fun s => f_Sets_markGoodSets_s21 i1 v2 s.1 s.2) (v3, h)
theorem f_Sets_markGoodSets_l21_ok {g : xG} {l : Launch} {d : Nat} {i1 : Nat} {v2 : Int32} {v3 : Int32} {h : xH} {o : ((Int32 × xH) ⊕ xH)} {R : Option xV} {H' : xH} (hD : 2 ≤ d) (hf : f_Sets_markGoodSets_l21 i1 v2 v3 h = some o) (K1 : ∀ (w2 : Int32) (h1 : xH), o = Sum.inl (w2, h1) → xEv g l d 35 4 [(0, xr 5 (some 0)), (1, xr 6 (some i1)), (2, xi w2)] [] h1 R H') (K0 : ∀ (h1 : xH), o = Sum.inr (h1) → R = none ∧ H' = h1) : xEv g l d 35 21 [(0, xr 5 (some 0)), (1, xr 6 (some i1)), (2, xi v2), (3, xi v3)] [] h R H' := by
  obtain ⟨n, hn⟩ := whl_iff.mp hf
  clear hf
  induction n generalizing v3 h with
  | zero => cases hn
  | succ n ih =>
    obtain ⟨o2, hs, hn⟩ := lk_b (show (f_Sets_markGoodSets_s21 i1 v2 v3 h).bind (fun o => Sum.elim (itn _ n) some o) = some o from hn)
    exact f_Sets_markGoodSets_s21_ok hD hs (fun u0 u1 e => K1 u0 u1 (by rw [e] at hn; exact (Option.some.inj hn).symm)) (fun u0 u1 e => ih (by rw [e] at hn; exact hn)) (fun u0 e => K0 u0 (by rw [e] at hn; exact (Option.some.inj hn).symm))
noncomputable def f_Sets_markGoodSets_s4 (i1 : Nat) (v2 : Int32) (h : xH) : Option ((Int32 × xH) ⊕ xH) :=
  if v2 < (0 : Int32) then (
  some (Sum.inr (h))) else (
  (f_Sets_isBest v2 h).bind fun r2 =>
  if xib v2 256 then (
  if r2 = 0 ∨ r2 = 1 then (
  xlet (xsA h 27 0 (upd (h.2.2.2.1 27 0) (v2).toNatClampNeg r2)) fun h5 =>
  f_Sets_markGoodSets_l21 i1 v2 (0 : Int32) h5) else none) else none)
set_option maxHeartbeats 4000000 in
set_option maxRecDepth 100000 in
theorem f_Sets_markGoodSets_s4_ok {g : xG} {l : Launch} {d : Nat} {i1 : Nat} {v2 : Int32} {h : xH} {o : ((Int32 × xH) ⊕ xH)} {R : Option xV} {H' : xH} (hD : 2 ≤ d) (hf : f_Sets_markGoodSets_s4 i1 v2 h = some o) (K1 : ∀ (w2 : Int32) (h1 : xH), o = Sum.inl (w2, h1) → xEv g l d 35 4 [(0, xr 5 (some 0)), (1, xr 6 (some i1)), (2, xi w2)] [] h1 R H') (K0 : ∀ (h1 : xH), o = Sum.inr (h1) → R = none ∧ H' = h1) : xEv g l d 35 4 [(0, xr 5 (some 0)), (1, xr 6 (some i1)), (2, xi v2)] [] h R H' := by
  unfold f_Sets_markGoodSets_s4 at hf
  refine xs_iload_n d35_4 rfl ?_
  rcases lk_if hf with ⟨hc1, hf⟩ | ⟨hc1, hf⟩
  · refine xs_if_lt (tgt := 70) d35_5 (by decide) (fun _ => ?_) (fun hn => absurd hc1 hn)
    obtain ⟨eR, eH⟩ := K0 _ (Option.some.inj hf).symm
    subst eR; subst eH
    exact xs_vret d35_70 rt35
  · refine xs_if_lt (tgt := 70) d35_5 (by decide) (fun hp => absurd hp hc1) (fun _ => ?_)
    refine xs_aload_n d35_8 rfl ?_
    refine xe_getc (j := 0) d35_9 ky35 fl138 fk5_12 rfl ?_
    refine xs_iload_n d35_12 rfl ?_
    refine xs_aload_n d35_13 rfl ?_
    refine xs_iload_n d35_14 rfl ?_
    obtain ⟨r2, hc3, hf⟩ := lk_b hf
    refine xe_callv1 (as := [xi v2]) (st := [xi v2, xr 27 (some 0)]) (h2 := h) (d2 := d - 1) d35_15 ky35 ml121 st33 (by decide) cn33 rfl na33 (Nat.le_of_ble_eq_true rfl) (by omega) (f_Sets_isBest_ok (by omega) hc3) ?_
    obtain ⟨hin4, hf⟩ := lk_g hf
    obtain ⟨hz6, hf⟩ := lk_g hf
    obtain ⟨h5, eh5, hf⟩ := lk_let hf
    refine xe_zast d35_18 (by decide) ak27 hin4 hz6 eh5 ?_
    refine xs_iconst (v := 0) d35_19 (by decide) ?_
    refine xe_istore_n (v := (0 : Int32)) (ls2 := [(0, xr 5 (some 0)), (1, xr 6 (some i1)), (2, xi v2), (3, xi (0 : Int32))]) d35_20 mx35 (by decide) rfl rfl ?_
    exact f_Sets_markGoodSets_l21_ok hD hf K1 K0
noncomputable def f_Sets_markGoodSets_l4 (i1 : Nat) (v2 : Int32) (h : xH) : Option xH :=
  whl (fun s => f_Sets_markGoodSets_s4 i1 s.1 s.2) (v2, h)
theorem f_Sets_markGoodSets_l4_ok {g : xG} {l : Launch} {d : Nat} {i1 : Nat} {v2 : Int32} {h : xH} {o : xH} {R : Option xV} {H' : xH} (hD : 2 ≤ d) (hf : f_Sets_markGoodSets_l4 i1 v2 h = some o) (K0 : ∀ (h1 : xH), o = h1 → R = none ∧ H' = h1) : xEv g l d 35 4 [(0, xr 5 (some 0)), (1, xr 6 (some i1)), (2, xi v2)] [] h R H' := by
  obtain ⟨n, hn⟩ := whl_iff.mp hf
  clear hf
  induction n generalizing v2 h with
  | zero => cases hn
  | succ n ih =>
    obtain ⟨o2, hs, hn⟩ := lk_b (show (f_Sets_markGoodSets_s4 i1 v2 h).bind (fun o => Sum.elim (itn _ n) some o) = some o from hn)
    exact f_Sets_markGoodSets_s4_ok hD hs (fun u0 u1 e => ih (by rw [e] at hn; exact hn)) (fun u0 e => K0 u0 (by rw [e] at hn; exact (Option.some.inj hn).symm))
noncomputable def f_Sets_markGoodSets_e (i1 : Nat) (h : xH) : Option xH :=
  f_Sets_markGoodSets_l4 i1 (255 : Int32) h
set_option maxHeartbeats 4000000 in
set_option maxRecDepth 100000 in
theorem f_Sets_markGoodSets_e_ok {g : xG} {l : Launch} {d : Nat} {i1 : Nat} {h : xH} {o : xH} {R : Option xV} {H' : xH} (hD : 2 ≤ d) (hf : f_Sets_markGoodSets_e i1 h = some o) (K0 : ∀ (h1 : xH), o = h1 → R = none ∧ H' = h1) : xEv g l d 35 0 [(0, xr 5 (some 0)), (1, xr 6 (some i1))] [] h R H' := by
  unfold f_Sets_markGoodSets_e at hf
  refine xs_sipush (v := 255) d35_0 (by decide) ?_
  refine xe_istore_n (v := (255 : Int32)) (ls2 := [(0, xr 5 (some 0)), (1, xr 6 (some i1)), (2, xi (255 : Int32))]) d35_3 mx35 (by decide) rfl rfl ?_
  exact f_Sets_markGoodSets_l4_ok hD hf K0
noncomputable def f_Sets_markGoodSets (i1 : Nat) (h : xH) : Option xH := f_Sets_markGoodSets_e i1 h
theorem f_Sets_markGoodSets_ok {g : xG} {l : Launch} {d : Nat} {i1 : Nat} {h : xH} {h1 : xH} (hD : 2 ≤ d) (hf : f_Sets_markGoodSets i1 h = some h1) : xC g l d 35 [xr 5 (some 0), xr 6 (some i1)] h none h1 :=
  xC_of (by decide) (Nat.le_of_ble_eq_true rfl) (f_Sets_markGoodSets_e_ok hD hf (fun _ e => ⟨rfl, e⟩))
theorem d36_0 : decode (xcode 36) 0 = .ok (.iconst 0, 1) := by decide +kernel
theorem d36_1 : decode (xcode 36) 1 = .ok (.istore_n 2, 1) := by decide +kernel
theorem d36_2 : decode (xcode 36) 2 = .ok (.aload_n 0, 1) := by decide +kernel
theorem d36_3 : decode (xcode 36) 3 = .ok (.iconst 0, 1) := by decide +kernel
theorem d36_4 : decode (xcode 36) 4 = .ok (.putfield 102, 3) := by decide +kernel
theorem d36_7 : decode (xcode 36) 7 = .ok (.iconst 0, 1) := by decide +kernel
theorem d36_8 : decode (xcode 36) 8 = .ok (.istore_n 3, 1) := by decide +kernel
theorem d36_9 : decode (xcode 36) 9 = .ok (.iload_n 3, 1) := by decide +kernel
theorem d36_10 : decode (xcode 36) 10 = .ok (.bipush 8, 2) := by decide +kernel
theorem d36_12 : decode (xcode 36) 12 = .ok (.if_icmp .ge 85, 3) := by decide +kernel
theorem d36_15 : decode (xcode 36) 15 = .ok (.aload_n 0, 1) := by decide +kernel
theorem d36_16 : decode (xcode 36) 16 = .ok (.iload_n 2, 1) := by decide +kernel
theorem d36_17 : decode (xcode 36) 17 = .ok (.invokevirtual 95, 3) := by decide +kernel
theorem d36_20 : decode (xcode 36) 20 = .ok (.ifCond .ne 77, 3) := by decide +kernel
theorem d36_23 : decode (xcode 36) 23 = .ok (.iconst (-1), 1) := by decide +kernel
theorem d36_24 : decode (xcode 36) 24 = .ok (.istore 4, 2) := by decide +kernel
theorem d36_26 : decode (xcode 36) 26 = .ok (.bipush 7, 2) := by decide +kernel
theorem d36_28 : decode (xcode 36) 28 = .ok (.istore 5, 2) := by decide +kernel
theorem d36_30 : decode (xcode 36) 30 = .ok (.iload 5, 2) := by decide +kernel
theorem d36_32 : decode (xcode 36) 32 = .ok (.ifCond .lt 24, 3) := by decide +kernel
theorem d36_35 : decode (xcode 36) 35 = .ok (.aload_n 0, 1) := by decide +kernel
theorem d36_36 : decode (xcode 36) 36 = .ok (.aload_n 1, 1) := by decide +kernel
theorem d36_37 : decode (xcode 36) 37 = .ok (.iload_n 2, 1) := by decide +kernel
theorem d36_38 : decode (xcode 36) 38 = .ok (.iload 5, 2) := by decide +kernel
theorem d36_40 : decode (xcode 36) 40 = .ok (.invokevirtual 98, 3) := by decide +kernel
theorem d36_43 : decode (xcode 36) 43 = .ok (.ifCond .eq 7, 3) := by decide +kernel
theorem d36_46 : decode (xcode 36) 46 = .ok (.iload 5, 2) := by decide +kernel
theorem d36_48 : decode (xcode 36) 48 = .ok (.istore 4, 2) := by decide +kernel
theorem d36_50 : decode (xcode 36) 50 = .ok (.iinc 5 (-1), 3) := by decide +kernel
theorem d36_53 : decode (xcode 36) 53 = .ok (.goto (-23), 3) := by decide +kernel
theorem d36_56 : decode (xcode 36) 56 = .ok (.iload 4, 2) := by decide +kernel
theorem d36_58 : decode (xcode 36) 58 = .ok (.iconst (-1), 1) := by decide +kernel
theorem d36_59 : decode (xcode 36) 59 = .ok (.if_icmp .ne 4, 3) := by decide +kernel
theorem d36_62 : decode (xcode 36) 62 = .ok (.return_, 1) := by decide +kernel
theorem d36_63 : decode (xcode 36) 63 = .ok (.aload_n 0, 1) := by decide +kernel
theorem d36_64 : decode (xcode 36) 64 = .ok (.getfield 9, 3) := by decide +kernel
theorem d36_67 : decode (xcode 36) 67 = .ok (.aload_n 0, 1) := by decide +kernel
theorem d36_68 : decode (xcode 36) 68 = .ok (.getfield 102, 3) := by decide +kernel
theorem d36_71 : decode (xcode 36) 71 = .ok (.iload 4, 2) := by decide +kernel
theorem d36_73 : decode (xcode 36) 73 = .ok (.iastore, 1) := by decide +kernel
theorem d36_74 : decode (xcode 36) 74 = .ok (.aload_n 0, 1) := by decide +kernel
theorem d36_75 : decode (xcode 36) 75 = .ok (.dup, 1) := by decide +kernel
theorem d36_76 : decode (xcode 36) 76 = .ok (.getfield 102, 3) := by decide +kernel
theorem d36_79 : decode (xcode 36) 79 = .ok (.iconst 1, 1) := by decide +kernel
theorem d36_80 : decode (xcode 36) 80 = .ok (.iadd, 1) := by decide +kernel
theorem d36_81 : decode (xcode 36) 81 = .ok (.putfield 102, 3) := by decide +kernel
theorem d36_84 : decode (xcode 36) 84 = .ok (.iload_n 2, 1) := by decide +kernel
theorem d36_85 : decode (xcode 36) 85 = .ok (.iconst 1, 1) := by decide +kernel
theorem d36_86 : decode (xcode 36) 86 = .ok (.iload 4, 2) := by decide +kernel
theorem d36_88 : decode (xcode 36) 88 = .ok (.ishl, 1) := by decide +kernel
theorem d36_89 : decode (xcode 36) 89 = .ok (.ior, 1) := by decide +kernel
theorem d36_90 : decode (xcode 36) 90 = .ok (.istore_n 2, 1) := by decide +kernel
theorem d36_91 : decode (xcode 36) 91 = .ok (.iinc 3 1, 3) := by decide +kernel
theorem d36_94 : decode (xcode 36) 94 = .ok (.goto (-85), 3) := by decide +kernel
theorem d36_97 : decode (xcode 36) 97 = .ok (.return_, 1) := by decide +kernel
noncomputable def f_Sets_layOutRow_b56 (i1 : Nat) (v2 : Int32) (v3 : Int32) (v4 : Int32) (h : xH) : Option ((Int32 × Int32 × xH) ⊕ xH) :=
  if v4 = (-1 : Int32) then (
  some (Sum.inr (h))) else (
  if xib (h.1 5 1 0) 8 then (
  xlet (xsA h 22 0 (upd (h.2.2.2.1 22 0) (h.1 5 1 0).toNatClampNeg v4)) fun h9 =>
  xlet (xsI h9 5 1 0 ((h9.1 5 1 0) + (1 : Int32))) fun h10 =>
  xlet (v2 ||| ((1 : Int32) <<< (v4 &&& 31))) fun v2_11 =>
  xlet (v3 + (1 : Int32)) fun v3_12 =>
  some (Sum.inl (v2_11, v3_12, h10))) else none)
set_option maxHeartbeats 4000000 in
set_option maxRecDepth 100000 in
theorem f_Sets_layOutRow_b56_ok {g : xG} {l : Launch} {d : Nat} {i1 : Nat} {v2 : Int32} {v3 : Int32} {v4 : Int32} {h : xH} {o : ((Int32 × Int32 × xH) ⊕ xH)} {R : Option xV} {H' : xH} (hD : 2 ≤ d) (hf : f_Sets_layOutRow_b56 i1 v2 v3 v4 h = some o) (K1 : ∀ (w2 : Int32) (w3 : Int32) (h1 : xH), o = Sum.inl (w2, w3, h1) → xEv g l d 36 9 [(0, xr 5 (some 0)), (1, xr 6 (some i1)), (2, xi w2), (3, xi w3)] [] h1 R H') (K0 : ∀ (h1 : xH), o = Sum.inr (h1) → R = none ∧ H' = h1) : xEv g l d 36 56 [(0, xr 5 (some 0)), (1, xr 6 (some i1)), (2, xi v2), (3, xi v3), (4, xi v4)] [] h R H' := by
  unfold f_Sets_layOutRow_b56 at hf
  refine xs_iload d36_56 rfl ?_
  refine xs_iconst (v := -1) d36_58 (by decide) ?_
  rcases lk_if hf with ⟨hc7, hf⟩ | ⟨hc7, hf⟩
  · refine xs_icmp_ne (tgt := 63) d36_59 (by decide) (fun _ => ?_) (fun hn => absurd hc7 hn)
    obtain ⟨eR, eH⟩ := K0 _ (Option.some.inj hf).symm
    subst eR; subst eH
    exact xs_vret d36_62 rt36
  · refine xs_icmp_ne (tgt := 63) d36_59 (by decide) (fun hp => absurd hp hc7) (fun _ => ?_)
    refine xs_aload_n d36_63 rfl ?_
    refine xe_getc (j := 0) d36_64 ky36 fl118 fk5_0 rfl ?_
    refine xs_aload_n d36_67 rfl ?_
    refine xe_geti d36_68 ky36 fl120 fk5_1 ?_
    refine xs_iload d36_71 rfl ?_
    obtain ⟨hin8, hf⟩ := lk_g hf
    obtain ⟨h9, eh9, hf⟩ := lk_let hf
    refine xe_iast d36_73 (by decide) ak22 hin8  eh9 ?_
    refine xs_aload_n d36_74 rfl ?_
    refine xs_dup d36_75 rfl ?_
    refine xe_geti d36_76 ky36 fl120 fk5_1 ?_
    refine xs_iconst (v := 1) d36_79 (by decide) ?_
    refine xs_iadd d36_80 ?_
    obtain ⟨h10, eh10, hf⟩ := lk_let hf
    refine xe_puti d36_81 ky36 fl120 fk5_1 ft5_1 eh10 ?_
    refine xs_iload_n d36_84 rfl ?_
    refine xs_iconst (v := 1) d36_85 (by decide) ?_
    refine xs_iload d36_86 rfl ?_
    refine xs_ishl d36_88 ?_
    refine xs_ior d36_89 ?_
    obtain ⟨v2_11, ev2_11, hf⟩ := lk_let hf
    refine xe_istore_n (v := v2_11) (ls2 := [(0, xr 5 (some 0)), (1, xr 6 (some i1)), (2, xi v2_11), (3, xi v3), (4, xi v4)]) d36_90 mx36 (by decide) ev2_11 rfl ?_
    obtain ⟨v3_12, ev3_12, hf⟩ := lk_let hf
    refine xe_iinc (v := v3_12) (b := 1) (ls2 := [(0, xr 5 (some 0)), (1, xr 6 (some i1)), (2, xi v2_11), (3, xi v3_12), (4, xi v4)]) d36_91 mx36 (by decide) rfl (by decide) ev3_12 rfl ?_
    refine xs_goto (tgt := 9) d36_94 (by decide) ?_
    refine xs_pick [0, 1, 2, 3] rfl ?_
    exact K1 _ _ _ (Option.some.inj hf).symm
noncomputable def f_Sets_layOutRow_b50 (i1 : Nat) (v2 : Int32) (v3 : Int32) (v4 : Int32) (v5 : Int32) (h : xH) : Option ((Int32 × Int32) ⊕ ((Int32 × Int32 × xH) ⊕ xH)) :=
  xlet (v5 + (-1 : Int32)) fun v5_16 =>
  some (Sum.inl (v4, v5_16))
set_option maxHeartbeats 4000000 in
set_option maxRecDepth 100000 in
theorem f_Sets_layOutRow_b50_ok {g : xG} {l : Launch} {d : Nat} {i1 : Nat} {v2 : Int32} {v3 : Int32} {v4 : Int32} {v5 : Int32} {h : xH} {o : ((Int32 × Int32) ⊕ ((Int32 × Int32 × xH) ⊕ xH))} {R : Option xV} {H' : xH} (hD : 2 ≤ d) (hf : f_Sets_layOutRow_b50 i1 v2 v3 v4 v5 h = some o) (K1 : ∀ (w2 : Int32) (w3 : Int32) (h1 : xH), o = Sum.inr (Sum.inl (w2, w3, h1)) → xEv g l d 36 9 [(0, xr 5 (some 0)), (1, xr 6 (some i1)), (2, xi w2), (3, xi w3)] [] h1 R H') (K2 : ∀ (w4 : Int32) (w5 : Int32), o = Sum.inl (w4, w5) → xEv g l d 36 30 [(0, xr 5 (some 0)), (1, xr 6 (some i1)), (2, xi v2), (3, xi v3), (4, xi w4), (5, xi w5)] [] h R H') (K0 : ∀ (h1 : xH), o = Sum.inr (Sum.inr (h1)) → R = none ∧ H' = h1) : xEv g l d 36 50 [(0, xr 5 (some 0)), (1, xr 6 (some i1)), (2, xi v2), (3, xi v3), (4, xi v4), (5, xi v5)] [] h R H' := by
  unfold f_Sets_layOutRow_b50 at hf
  obtain ⟨v5_16, ev5_16, hf⟩ := lk_let hf
  refine xe_iinc (v := v5_16) (b := -1) (ls2 := [(0, xr 5 (some 0)), (1, xr 6 (some i1)), (2, xi v2), (3, xi v3), (4, xi v4), (5, xi v5_16)]) d36_50 mx36 (by decide) rfl (by decide) ev5_16 rfl ?_
  refine xs_goto (tgt := 30) d36_53 (by decide) ?_
  exact K2 _ _ (Option.some.inj hf).symm
noncomputable def f_Sets_layOutRow_s30 (i1 : Nat) (v2 : Int32) (v3 : Int32) (v4 : Int32) (v5 : Int32) (h : xH) : Option ((Int32 × Int32) ⊕ ((Int32 × Int32 × xH) ⊕ xH)) :=
  if v5 < (0 : Int32) then (
  xup (f_Sets_layOutRow_b56 i1 v2 v3 v4 h)) else (
  (f_Sets_leadsOn i1 v2 v5 h).bind fun r13 =>
  if r13 = (0 : Int32) then (
  f_Sets_layOutRow_b50 i1 v2 v3 v4 v5 h) else (
  f_Sets_layOutRow_b50 i1 v2 v3 v5 v5 h))
set_option maxHeartbeats 4000000 in
set_option maxRecDepth 100000 in
theorem f_Sets_layOutRow_s30_ok {g : xG} {l : Launch} {d : Nat} {i1 : Nat} {v2 : Int32} {v3 : Int32} {v4 : Int32} {v5 : Int32} {h : xH} {o : ((Int32 × Int32) ⊕ ((Int32 × Int32 × xH) ⊕ xH))} {R : Option xV} {H' : xH} (hD : 2 ≤ d) (hf : f_Sets_layOutRow_s30 i1 v2 v3 v4 v5 h = some o) (K1 : ∀ (w2 : Int32) (w3 : Int32) (h1 : xH), o = Sum.inr (Sum.inl (w2, w3, h1)) → xEv g l d 36 9 [(0, xr 5 (some 0)), (1, xr 6 (some i1)), (2, xi w2), (3, xi w3)] [] h1 R H') (K2 : ∀ (w4 : Int32) (w5 : Int32), o = Sum.inl (w4, w5) → xEv g l d 36 30 [(0, xr 5 (some 0)), (1, xr 6 (some i1)), (2, xi v2), (3, xi v3), (4, xi w4), (5, xi w5)] [] h R H') (K0 : ∀ (h1 : xH), o = Sum.inr (Sum.inr (h1)) → R = none ∧ H' = h1) : xEv g l d 36 30 [(0, xr 5 (some 0)), (1, xr 6 (some i1)), (2, xi v2), (3, xi v3), (4, xi v4), (5, xi v5)] [] h R H' := by
  unfold f_Sets_layOutRow_s30 at hf
  refine xs_iload d36_30 rfl ?_
  rcases lk_if hf with ⟨hc6, hf⟩ | ⟨hc6, hf⟩
  · refine xs_if_lt (tgt := 56) d36_32 (by decide) (fun _ => ?_) (fun hn => absurd hc6 hn)
    refine xs_pick [0, 1, 2, 3, 4] rfl ?_
    obtain ⟨x0, hf, ex0⟩ := lk_up hf
    exact f_Sets_layOutRow_b56_ok hD hf (fun u0 u1 u2 e => K1 u0 u1 u2 (ex0.trans (congrArg Sum.inr e))) (fun u0 e => K0 u0 (ex0.trans (congrArg Sum.inr e)))
  · refine xs_if_lt (tgt := 56) d36_32 (by decide) (fun hp => absurd hp hc6) (fun _ => ?_)
    refine xs_aload_n d36_35 rfl ?_
    refine xs_aload_n d36_36 rfl ?_
    refine xs_iload_n d36_37 rfl ?_
    refine xs_iload d36_38 rfl ?_
    obtain ⟨r13, hc14, hf⟩ := lk_b hf
    refine xe_callv1 (as := [xr 6 (some i1), xi v2, xi v5]) (st := []) (h2 := h) (d2 := d - 1) d36_40 ky36 ml122 st34 (by decide) cn34 rfl na34 (Nat.le_of_ble_eq_true rfl) (by omega) (f_Sets_leadsOn_ok (by omega) hc14) ?_
    rcases lk_if hf with ⟨hc15, hf⟩ | ⟨hc15, hf⟩
    · refine xs_if_eq (tgt := 50) d36_43 (by decide) (fun _ => ?_) (fun hn => absurd hc15 hn)
      exact f_Sets_layOutRow_b50_ok hD hf K1 K2 K0
    · refine xs_if_eq (tgt := 50) d36_43 (by decide) (fun hp => absurd hp hc15) (fun _ => ?_)
      refine xs_iload d36_46 rfl ?_
      refine xe_istore (v := v5) (ls2 := [(0, xr 5 (some 0)), (1, xr 6 (some i1)), (2, xi v2), (3, xi v3), (4, xi v5), (5, xi v5)]) d36_48 mx36 (by decide) rfl rfl ?_
      exact f_Sets_layOutRow_b50_ok hD hf K1 K2 K0
noncomputable def f_Sets_layOutRow_l30 (i1 : Nat) (v2 : Int32) (v3 : Int32) (v4 : Int32) (v5 : Int32) (h : xH) : Option ((Int32 × Int32 × xH) ⊕ xH) :=
  whl (fun s => f_Sets_layOutRow_s30 i1 v2 v3 s.1 s.2 h) (v4, v5)
theorem f_Sets_layOutRow_l30_ok {g : xG} {l : Launch} {d : Nat} {i1 : Nat} {v2 : Int32} {v3 : Int32} {v4 : Int32} {v5 : Int32} {h : xH} {o : ((Int32 × Int32 × xH) ⊕ xH)} {R : Option xV} {H' : xH} (hD : 2 ≤ d) (hf : f_Sets_layOutRow_l30 i1 v2 v3 v4 v5 h = some o) (K1 : ∀ (w2 : Int32) (w3 : Int32) (h1 : xH), o = Sum.inl (w2, w3, h1) → xEv g l d 36 9 [(0, xr 5 (some 0)), (1, xr 6 (some i1)), (2, xi w2), (3, xi w3)] [] h1 R H') (K0 : ∀ (h1 : xH), o = Sum.inr (h1) → R = none ∧ H' = h1) : xEv g l d 36 30 [(0, xr 5 (some 0)), (1, xr 6 (some i1)), (2, xi v2), (3, xi v3), (4, xi v4), (5, xi v5)] [] h R H' := by
  obtain ⟨n, hn⟩ := whl_iff.mp hf
  clear hf
  induction n generalizing v4 v5 with
  | zero => cases hn
  | succ n ih =>
    obtain ⟨o2, hs, hn⟩ := lk_b (show (f_Sets_layOutRow_s30 i1 v2 v3 v4 v5 h).bind (fun o => Sum.elim (itn _ n) some o) = some o from hn)
    exact f_Sets_layOutRow_s30_ok hD hs (fun u0 u1 u2 e => K1 u0 u1 u2 (by rw [e] at hn; exact (Option.some.inj hn).symm)) (fun u0 u1 e => ih (by rw [e] at hn; exact hn)) (fun u0 e => K0 u0 (by rw [e] at hn; exact (Option.some.inj hn).symm))
noncomputable def f_Sets_layOutRow_s9 (i1 : Nat) (v2 : Int32) (v3 : Int32) (h : xH) : Option ((Int32 × Int32 × xH) ⊕ xH) :=
  if (8 : Int32) ≤ v3 then (
  some (Sum.inr (h))) else (
  (f_Sets_isBest v2 h).bind fun r3 =>
  if r3 = (0 : Int32) then (
  f_Sets_layOutRow_l30 i1 v2 v3 (-1 : Int32) (7 : Int32) h) else (
  some (Sum.inr (h))))
set_option maxHeartbeats 4000000 in
set_option maxRecDepth 100000 in
theorem f_Sets_layOutRow_s9_ok {g : xG} {l : Launch} {d : Nat} {i1 : Nat} {v2 : Int32} {v3 : Int32} {h : xH} {o : ((Int32 × Int32 × xH) ⊕ xH)} {R : Option xV} {H' : xH} (hD : 2 ≤ d) (hf : f_Sets_layOutRow_s9 i1 v2 v3 h = some o) (K1 : ∀ (w2 : Int32) (w3 : Int32) (h1 : xH), o = Sum.inl (w2, w3, h1) → xEv g l d 36 9 [(0, xr 5 (some 0)), (1, xr 6 (some i1)), (2, xi w2), (3, xi w3)] [] h1 R H') (K0 : ∀ (h1 : xH), o = Sum.inr (h1) → R = none ∧ H' = h1) : xEv g l d 36 9 [(0, xr 5 (some 0)), (1, xr 6 (some i1)), (2, xi v2), (3, xi v3)] [] h R H' := by
  unfold f_Sets_layOutRow_s9 at hf
  refine xs_iload_n d36_9 rfl ?_
  refine xs_bipush (v := 8) d36_10 (by decide) ?_
  rcases lk_if hf with ⟨hc2, hf⟩ | ⟨hc2, hf⟩
  · refine xs_icmp_ge (tgt := 97) d36_12 (by decide) (fun _ => ?_) (fun hn => absurd hc2 hn)
    obtain ⟨eR, eH⟩ := K0 _ (Option.some.inj hf).symm
    subst eR; subst eH
    exact xs_vret d36_97 rt36
  · refine xs_icmp_ge (tgt := 97) d36_12 (by decide) (fun hp => absurd hp hc2) (fun _ => ?_)
    refine xs_aload_n d36_15 rfl ?_
    refine xs_iload_n d36_16 rfl ?_
    obtain ⟨r3, hc4, hf⟩ := lk_b hf
    refine xe_callv1 (as := [xi v2]) (st := []) (h2 := h) (d2 := d - 1) d36_17 ky36 ml121 st33 (by decide) cn33 rfl na33 (Nat.le_of_ble_eq_true rfl) (by omega) (f_Sets_isBest_ok (by omega) hc4) ?_
    rcases lk_if hf with ⟨hc5, hf⟩ | ⟨hc5, hf⟩
    · refine xs_if_ne (tgt := 97) d36_20 (by decide) (fun _ => ?_) (fun hn => absurd hc5 hn)
      refine xs_iconst (v := -1) d36_23 (by decide) ?_
      refine xe_istore (v := (-1 : Int32)) (ls2 := [(0, xr 5 (some 0)), (1, xr 6 (some i1)), (2, xi v2), (3, xi v3), (4, xi (-1 : Int32))]) d36_24 mx36 (by decide) rfl rfl ?_
      refine xs_bipush (v := 7) d36_26 (by decide) ?_
      refine xe_istore (v := (7 : Int32)) (ls2 := [(0, xr 5 (some 0)), (1, xr 6 (some i1)), (2, xi v2), (3, xi v3), (4, xi (-1 : Int32)), (5, xi (7 : Int32))]) d36_28 mx36 (by decide) rfl rfl ?_
      exact f_Sets_layOutRow_l30_ok hD hf K1 K0
    · refine xs_if_ne (tgt := 97) d36_20 (by decide) (fun hp => absurd hp hc5) (fun _ => ?_)
      obtain ⟨eR, eH⟩ := K0 _ (Option.some.inj hf).symm
      subst eR; subst eH
      exact xs_vret d36_97 rt36
noncomputable def f_Sets_layOutRow_l9 (i1 : Nat) (v2 : Int32) (v3 : Int32) (h : xH) : Option xH :=
  whl (fun s => f_Sets_layOutRow_s9 i1 s.1 s.2.1 s.2.2) (v2, v3, h)
theorem f_Sets_layOutRow_l9_ok {g : xG} {l : Launch} {d : Nat} {i1 : Nat} {v2 : Int32} {v3 : Int32} {h : xH} {o : xH} {R : Option xV} {H' : xH} (hD : 2 ≤ d) (hf : f_Sets_layOutRow_l9 i1 v2 v3 h = some o) (K0 : ∀ (h1 : xH), o = h1 → R = none ∧ H' = h1) : xEv g l d 36 9 [(0, xr 5 (some 0)), (1, xr 6 (some i1)), (2, xi v2), (3, xi v3)] [] h R H' := by
  obtain ⟨n, hn⟩ := whl_iff.mp hf
  clear hf
  induction n generalizing v2 v3 h with
  | zero => cases hn
  | succ n ih =>
    obtain ⟨o2, hs, hn⟩ := lk_b (show (f_Sets_layOutRow_s9 i1 v2 v3 h).bind (fun o => Sum.elim (itn _ n) some o) = some o from hn)
    exact f_Sets_layOutRow_s9_ok hD hs (fun u0 u1 u2 e => ih (by rw [e] at hn; exact hn)) (fun u0 e => K0 u0 (by rw [e] at hn; exact (Option.some.inj hn).symm))
noncomputable def f_Sets_layOutRow_e (i1 : Nat) (h : xH) : Option xH :=
  xlet (xsI h 5 1 0 (0 : Int32)) fun h1 =>
  f_Sets_layOutRow_l9 i1 (0 : Int32) (0 : Int32) h1
set_option maxHeartbeats 4000000 in
set_option maxRecDepth 100000 in
theorem f_Sets_layOutRow_e_ok {g : xG} {l : Launch} {d : Nat} {i1 : Nat} {h : xH} {o : xH} {R : Option xV} {H' : xH} (hD : 2 ≤ d) (hf : f_Sets_layOutRow_e i1 h = some o) (K0 : ∀ (h1 : xH), o = h1 → R = none ∧ H' = h1) : xEv g l d 36 0 [(0, xr 5 (some 0)), (1, xr 6 (some i1))] [] h R H' := by
  unfold f_Sets_layOutRow_e at hf
  refine xs_iconst (v := 0) d36_0 (by decide) ?_
  refine xe_istore_n (v := (0 : Int32)) (ls2 := [(0, xr 5 (some 0)), (1, xr 6 (some i1)), (2, xi (0 : Int32))]) d36_1 mx36 (by decide) rfl rfl ?_
  refine xs_aload_n d36_2 rfl ?_
  refine xs_iconst (v := 0) d36_3 (by decide) ?_
  obtain ⟨h1, eh1, hf⟩ := lk_let hf
  refine xe_puti d36_4 ky36 fl120 fk5_1 ft5_1 eh1 ?_
  refine xs_iconst (v := 0) d36_7 (by decide) ?_
  refine xe_istore_n (v := (0 : Int32)) (ls2 := [(0, xr 5 (some 0)), (1, xr 6 (some i1)), (2, xi (0 : Int32)), (3, xi (0 : Int32))]) d36_8 mx36 (by decide) rfl rfl ?_
  exact f_Sets_layOutRow_l9_ok hD hf K0
noncomputable def f_Sets_layOutRow (i1 : Nat) (h : xH) : Option xH := f_Sets_layOutRow_e i1 h
theorem f_Sets_layOutRow_ok {g : xG} {l : Launch} {d : Nat} {i1 : Nat} {h : xH} {h1 : xH} (hD : 2 ≤ d) (hf : f_Sets_layOutRow i1 h = some h1) : xC g l d 36 [xr 5 (some 0), xr 6 (some i1)] h none h1 :=
  xC_of (by decide) (Nat.le_of_ble_eq_true rfl) (f_Sets_layOutRow_e_ok hD hf (fun _ e => ⟨rfl, e⟩))
theorem d30_0 : decode (xcode 30) 0 = .ok (.aload_n 1, 1) := by decide +kernel
theorem d30_1 : decode (xcode 30) 1 = .ok (.getfield 40, 3) := by decide +kernel
theorem d30_4 : decode (xcode 30) 4 = .ok (.aload_n 0, 1) := by decide +kernel
theorem d30_5 : decode (xcode 30) 5 = .ok (.getfield 15, 3) := by decide +kernel
theorem d30_8 : decode (xcode 30) 8 = .ok (.invokestatic 45, 3) := by decide +kernel
theorem d30_11 : decode (xcode 30) 11 = .ok (.aload_n 2, 1) := by decide +kernel
theorem d30_12 : decode (xcode 30) 12 = .ok (.getfield 49, 3) := by decide +kernel
theorem d30_15 : decode (xcode 30) 15 = .ok (.aload_n 0, 1) := by decide +kernel
theorem d30_16 : decode (xcode 30) 16 = .ok (.getfield 18, 3) := by decide +kernel
theorem d30_19 : decode (xcode 30) 19 = .ok (.invokestatic 45, 3) := by decide +kernel
theorem d30_22 : decode (xcode 30) 22 = .ok (.aload_n 0, 1) := by decide +kernel
theorem d30_23 : decode (xcode 30) 23 = .ok (.aload_n 1, 1) := by decide +kernel
theorem d30_24 : decode (xcode 30) 24 = .ok (.aload_n 2, 1) := by decide +kernel
theorem d30_25 : decode (xcode 30) 25 = .ok (.invokevirtual 54, 3) := by decide +kernel
theorem d30_28 : decode (xcode 30) 28 = .ok (.aload_n 0, 1) := by decide +kernel
theorem d30_29 : decode (xcode 30) 29 = .ok (.aload_n 2, 1) := by decide +kernel
theorem d30_30 : decode (xcode 30) 30 = .ok (.invokevirtual 58, 3) := by decide +kernel
theorem d30_33 : decode (xcode 30) 33 = .ok (.aload_n 0, 1) := by decide +kernel
theorem d30_34 : decode (xcode 30) 34 = .ok (.aload_n 2, 1) := by decide +kernel
theorem d30_35 : decode (xcode 30) 35 = .ok (.invokevirtual 62, 3) := by decide +kernel
theorem d30_38 : decode (xcode 30) 38 = .ok (.aload_n 0, 1) := by decide +kernel
theorem d30_39 : decode (xcode 30) 39 = .ok (.aload_n 2, 1) := by decide +kernel
theorem d30_40 : decode (xcode 30) 40 = .ok (.invokevirtual 65, 3) := by decide +kernel
theorem d30_43 : decode (xcode 30) 43 = .ok (.return_, 1) := by decide +kernel
noncomputable def f_Sets_findRow_e (i1 : Nat) (i2 : Nat) (h : xH) : Option xH :=
  (f_Sets_addUp_39_23 i1 h).bind fun h3 =>
  (f_Sets_addUp_32_24 i2 h3).bind fun h6 =>
  (f_Sets_findOpenSets i1 i2 h6).bind fun h9 =>
  (f_Sets_findBestSums i2 h9).bind fun h12 =>
  (f_Sets_markGoodSets i2 h12).bind fun h15 =>
  (f_Sets_layOutRow i2 h15).bind fun h18 =>
  some (h18)
set_option maxHeartbeats 4000000 in
set_option maxRecDepth 100000 in
theorem f_Sets_findRow_e_ok {g : xG} {l : Launch} {d : Nat} {i1 : Nat} {i2 : Nat} {h : xH} {o : xH} {R : Option xV} {H' : xH} (hD : 3 ≤ d) (hf : f_Sets_findRow_e i1 i2 h = some o) (K0 : ∀ (h1 : xH), o = h1 → R = none ∧ H' = h1) : xEv g l d 30 0 [(0, xr 5 (some 0)), (1, xr 8 (some i1)), (2, xr 6 (some i2))] [] h R H' := by
  unfold f_Sets_findRow_e at hf
  refine xs_aload_n d30_0 rfl ?_
  refine xe_getc (j := i1) d30_1 ky30 fl44 fk8_7 (by omega) ?_
  refine xs_aload_n d30_4 rfl ?_
  refine xe_getc (j := 0) d30_5 ky30 fl134 fk5_8 rfl ?_
  obtain ⟨h3, hc2, hf⟩ := lk_b hf
  refine xe_calls0 (as := [xr 39 (some i1), xr 23 (some 0)]) (st := []) (h2 := h3) (d2 := d - 1) d30_8 ky30 ml115 st29 rfl na29 (Nat.le_of_ble_eq_true rfl) (by omega) (f_Sets_addUp_39_23_ok (by omega) hc2) ?_
  refine xs_aload_n d30_11 rfl ?_
  refine xe_getc (j := i2) d30_12 ky30 fl92 fk6_7 (by omega) ?_
  refine xs_aload_n d30_15 rfl ?_
  refine xe_getc (j := 0) d30_16 ky30 fl135 fk5_9 rfl ?_
  obtain ⟨h6, hc5, hf⟩ := lk_b hf
  refine xe_calls0 (as := [xr 32 (some i2), xr 24 (some 0)]) (st := []) (h2 := h6) (d2 := d - 1) d30_19 ky30 ml115 st29 rfl na29 (Nat.le_of_ble_eq_true rfl) (by omega) (f_Sets_addUp_32_24_ok (by omega) hc5) ?_
  refine xs_aload_n d30_22 rfl ?_
  refine xs_aload_n d30_23 rfl ?_
  refine xs_aload_n d30_24 rfl ?_
  obtain ⟨h9, hc8, hf⟩ := lk_b hf
  refine xe_callv0 (as := [xr 8 (some i1), xr 6 (some i2)]) (st := []) (h2 := h9) (d2 := d - 1) d30_25 ky30 ml117 st31 (by decide) cn31 rfl na31 (Nat.le_of_ble_eq_true rfl) (by omega) (f_Sets_findOpenSets_ok (by omega) hc8) ?_
  refine xs_aload_n d30_28 rfl ?_
  refine xs_aload_n d30_29 rfl ?_
  obtain ⟨h12, hc11, hf⟩ := lk_b hf
  refine xe_callv0 (as := [xr 6 (some i2)]) (st := []) (h2 := h12) (d2 := d - 1) d30_30 ky30 ml119 st32 (by decide) cn32 rfl na32 (Nat.le_of_ble_eq_true rfl) (by omega) (f_Sets_findBestSums_ok (by omega) hc11) ?_
  refine xs_aload_n d30_33 rfl ?_
  refine xs_aload_n d30_34 rfl ?_
  obtain ⟨h15, hc14, hf⟩ := lk_b hf
  refine xe_callv0 (as := [xr 6 (some i2)]) (st := []) (h2 := h15) (d2 := d - 1) d30_35 ky30 ml120 st35 (by decide) cn35 rfl na35 (Nat.le_of_ble_eq_true rfl) (by omega) (f_Sets_markGoodSets_ok (by omega) hc14) ?_
  refine xs_aload_n d30_38 rfl ?_
  refine xs_aload_n d30_39 rfl ?_
  obtain ⟨h18, hc17, hf⟩ := lk_b hf
  refine xe_callv0 (as := [xr 6 (some i2)]) (st := []) (h2 := h18) (d2 := d - 1) d30_40 ky30 ml124 st36 (by decide) cn36 rfl na36 (Nat.le_of_ble_eq_true rfl) (by omega) (f_Sets_layOutRow_ok (by omega) hc17) ?_
  obtain ⟨eR, eH⟩ := K0 _ (Option.some.inj hf).symm
  subst eR; subst eH
  exact xs_vret d30_43 rt30
noncomputable def f_Sets_findRow (i1 : Nat) (i2 : Nat) (h : xH) : Option xH := f_Sets_findRow_e i1 i2 h
theorem f_Sets_findRow_ok {g : xG} {l : Launch} {d : Nat} {i1 : Nat} {i2 : Nat} {h : xH} {h1 : xH} (hD : 3 ≤ d) (hf : f_Sets_findRow i1 i2 h = some h1) : xC g l d 30 [xr 5 (some 0), xr 8 (some i1), xr 6 (some i2)] h none h1 :=
  xC_of (by decide) (Nat.le_of_ble_eq_true rfl) (f_Sets_findRow_e_ok hD hf (fun _ e => ⟨rfl, e⟩))
theorem d40_0 : decode (xcode 40) 0 = .ok (.iconst 0, 1) := by decide +kernel
theorem d40_1 : decode (xcode 40) 1 = .ok (.istore_n 2, 1) := by decide +kernel
theorem d40_2 : decode (xcode 40) 2 = .ok (.iconst 0, 1) := by decide +kernel
theorem d40_3 : decode (xcode 40) 3 = .ok (.istore_n 3, 1) := by decide +kernel
theorem d40_4 : decode (xcode 40) 4 = .ok (.iload_n 3, 1) := by decide +kernel
theorem d40_5 : decode (xcode 40) 5 = .ok (.bipush 8, 2) := by decide +kernel
theorem d40_7 : decode (xcode 40) 7 = .ok (.if_icmp .ge 28, 3) := by decide +kernel
theorem d40_10 : decode (xcode 40) 10 = .ok (.aload_n 1, 1) := by decide +kernel
theorem d40_11 : decode (xcode 40) 11 = .ok (.getfield 82, 3) := by decide +kernel
theorem d40_14 : decode (xcode 40) 14 = .ok (.iload_n 3, 1) := by decide +kernel
theorem d40_15 : decode (xcode 40) 15 = .ok (.iaload, 1) := by decide +kernel
theorem d40_16 : decode (xcode 40) 16 = .ok (.iload_n 0, 1) := by decide +kernel
theorem d40_17 : decode (xcode 40) 17 = .ok (.invokestatic 78, 3) := by decide +kernel
theorem d40_20 : decode (xcode 40) 20 = .ok (.ifCond .eq 9, 3) := by decide +kernel
theorem d40_23 : decode (xcode 40) 23 = .ok (.iload_n 2, 1) := by decide +kernel
theorem d40_24 : decode (xcode 40) 24 = .ok (.iconst 1, 1) := by decide +kernel
theorem d40_25 : decode (xcode 40) 25 = .ok (.iload_n 3, 1) := by decide +kernel
theorem d40_26 : decode (xcode 40) 26 = .ok (.ishl, 1) := by decide +kernel
theorem d40_27 : decode (xcode 40) 27 = .ok (.ior, 1) := by decide +kernel
theorem d40_28 : decode (xcode 40) 28 = .ok (.istore_n 2, 1) := by decide +kernel
theorem d40_29 : decode (xcode 40) 29 = .ok (.iinc 3 1, 3) := by decide +kernel
theorem d40_32 : decode (xcode 40) 32 = .ok (.goto (-28), 3) := by decide +kernel
theorem d40_35 : decode (xcode 40) 35 = .ok (.iload_n 2, 1) := by decide +kernel
theorem d40_36 : decode (xcode 40) 36 = .ok (.ireturn, 1) := by decide +kernel
noncomputable def f_Sets_lyingUnder_b29 (i1 : Nat) (v0 : Int32) (v2 : Int32) (v3 : Int32) (h : xH) : Option ((Int32 × Int32) ⊕ Int32) :=
  xlet (v3 + (1 : Int32)) fun v3_6 =>
  some (Sum.inl (v2, v3_6))
set_option maxHeartbeats 4000000 in
set_option maxRecDepth 100000 in
theorem f_Sets_lyingUnder_b29_ok {g : xG} {l : Launch} {d : Nat} {i1 : Nat} {v0 : Int32} {v2 : Int32} {v3 : Int32} {h : xH} {o : ((Int32 × Int32) ⊕ Int32)} {R : Option xV} (hD : 1 ≤ d) (hf : f_Sets_lyingUnder_b29 i1 v0 v2 v3 h = some o) (K1 : ∀ (w2 : Int32) (w3 : Int32), o = Sum.inl (w2, w3) → xEv g l d 40 4 [(0, xi v0), (1, xr 6 (some i1)), (2, xi w2), (3, xi w3)] [] h R h) (K0 : ∀ (a : Int32), o = Sum.inr (a) → R = some (xi a)) : xEv g l d 40 29 [(0, xi v0), (1, xr 6 (some i1)), (2, xi v2), (3, xi v3)] [] h R h := by
  unfold f_Sets_lyingUnder_b29 at hf
  obtain ⟨v3_6, ev3_6, hf⟩ := lk_let hf
  refine xe_iinc (v := v3_6) (b := 1) (ls2 := [(0, xi v0), (1, xr 6 (some i1)), (2, xi v2), (3, xi v3_6)]) d40_29 mx40 (by decide) rfl (by decide) ev3_6 rfl ?_
  refine xs_goto (tgt := 4) d40_32 (by decide) ?_
  exact K1 _ _ (Option.some.inj hf).symm
noncomputable def f_Sets_lyingUnder_s4 (i1 : Nat) (v0 : Int32) (v2 : Int32) (v3 : Int32) (h : xH) : Option ((Int32 × Int32) ⊕ Int32) :=
  if (8 : Int32) ≤ v3 then (
  some (Sum.inr (v2))) else (
  if xib v3 8 then (
  (f_Sets_has (h.2.2.2.1 30 i1 (v3).toNatClampNeg) v0 h).bind fun r3 =>
  if r3 = (0 : Int32) then (
  f_Sets_lyingUnder_b29 i1 v0 v2 v3 h) else (
  xlet (v2 ||| ((1 : Int32) <<< (v3 &&& 31))) fun v2_7 =>
  f_Sets_lyingUnder_b29 i1 v0 v2_7 v3 h)) else none)
set_option maxHeartbeats 4000000 in
set_option maxRecDepth 100000 in
theorem f_Sets_lyingUnder_s4_ok {g : xG} {l : Launch} {d : Nat} {i1 : Nat} {v0 : Int32} {v2 : Int32} {v3 : Int32} {h : xH} {o : ((Int32 × Int32) ⊕ Int32)} {R : Option xV} (hD : 1 ≤ d) (hf : f_Sets_lyingUnder_s4 i1 v0 v2 v3 h = some o) (K1 : ∀ (w2 : Int32) (w3 : Int32), o = Sum.inl (w2, w3) → xEv g l d 40 4 [(0, xi v0), (1, xr 6 (some i1)), (2, xi w2), (3, xi w3)] [] h R h) (K0 : ∀ (a : Int32), o = Sum.inr (a) → R = some (xi a)) : xEv g l d 40 4 [(0, xi v0), (1, xr 6 (some i1)), (2, xi v2), (3, xi v3)] [] h R h := by
  unfold f_Sets_lyingUnder_s4 at hf
  refine xs_iload_n d40_4 rfl ?_
  refine xs_bipush (v := 8) d40_5 (by decide) ?_
  rcases lk_if hf with ⟨hc1, hf⟩ | ⟨hc1, hf⟩
  · refine xs_icmp_ge (tgt := 35) d40_7 (by decide) (fun _ => ?_) (fun hn => absurd hc1 hn)
    refine xs_iload_n d40_35 rfl ?_
    obtain eR := K0 _ (Option.some.inj hf).symm
    subst eR
    exact xs_iret d40_36 rt40
  · refine xs_icmp_ge (tgt := 35) d40_7 (by decide) (fun hp => absurd hp hc1) (fun _ => ?_)
    refine xs_aload_n d40_10 rfl ?_
    refine xe_getc (j := i1) d40_11 ky40 fl85 fk6_5 (by omega) ?_
    refine xs_iload_n d40_14 rfl ?_
    obtain ⟨hin2, hf⟩ := lk_g hf
    refine xe_iald d40_15 (by decide) ak30 hin2 ?_
    refine xs_iload_n d40_16 rfl ?_
    obtain ⟨r3, hc4, hf⟩ := lk_b hf
    refine xe_calls1 (as := [xi (h.2.2.2.1 30 i1 (v3).toNatClampNeg), xi v0]) (st := []) (h2 := h) (d2 := d - 1) d40_17 ky40 ml118 st28 rfl na28 (Nat.le_of_ble_eq_true rfl) (by omega) (f_Sets_has_ok (by omega) hc4) ?_
    rcases lk_if hf with ⟨hc5, hf⟩ | ⟨hc5, hf⟩
    · refine xs_if_eq (tgt := 29) d40_20 (by decide) (fun _ => ?_) (fun hn => absurd hc5 hn)
      exact f_Sets_lyingUnder_b29_ok hD hf K1 K0
    · refine xs_if_eq (tgt := 29) d40_20 (by decide) (fun hp => absurd hp hc5) (fun _ => ?_)
      refine xs_iload_n d40_23 rfl ?_
      refine xs_iconst (v := 1) d40_24 (by decide) ?_
      refine xs_iload_n d40_25 rfl ?_
      refine xs_ishl d40_26 ?_
      refine xs_ior d40_27 ?_
      obtain ⟨v2_7, ev2_7, hf⟩ := lk_let hf
      refine xe_istore_n (v := v2_7) (ls2 := [(0, xi v0), (1, xr 6 (some i1)), (2, xi v2_7), (3, xi v3)]) d40_28 mx40 (by decide) ev2_7 rfl ?_
      exact f_Sets_lyingUnder_b29_ok hD hf K1 K0
noncomputable def f_Sets_lyingUnder_l4 (i1 : Nat) (v0 : Int32) (v2 : Int32) (v3 : Int32) (h : xH) : Option Int32 :=
  whl (fun s => f_Sets_lyingUnder_s4 i1 v0 s.1 s.2 h) (v2, v3)
theorem f_Sets_lyingUnder_l4_ok {g : xG} {l : Launch} {d : Nat} {i1 : Nat} {v0 : Int32} {v2 : Int32} {v3 : Int32} {h : xH} {o : Int32} {R : Option xV} (hD : 1 ≤ d) (hf : f_Sets_lyingUnder_l4 i1 v0 v2 v3 h = some o) (K0 : ∀ (a : Int32), o = a → R = some (xi a)) : xEv g l d 40 4 [(0, xi v0), (1, xr 6 (some i1)), (2, xi v2), (3, xi v3)] [] h R h := by
  obtain ⟨n, hn⟩ := whl_iff.mp hf
  clear hf
  induction n generalizing v2 v3 with
  | zero => cases hn
  | succ n ih =>
    obtain ⟨o2, hs, hn⟩ := lk_b (show (f_Sets_lyingUnder_s4 i1 v0 v2 v3 h).bind (fun o => Sum.elim (itn _ n) some o) = some o from hn)
    exact f_Sets_lyingUnder_s4_ok hD hs (fun u0 u1 e => ih (by rw [e] at hn; exact hn)) (fun u0 e => K0 u0 (by rw [e] at hn; exact (Option.some.inj hn).symm))
noncomputable def f_Sets_lyingUnder_e (i1 : Nat) (v0 : Int32) (h : xH) : Option Int32 :=
  f_Sets_lyingUnder_l4 i1 v0 (0 : Int32) (0 : Int32) h
set_option maxHeartbeats 4000000 in
set_option maxRecDepth 100000 in
theorem f_Sets_lyingUnder_e_ok {g : xG} {l : Launch} {d : Nat} {i1 : Nat} {v0 : Int32} {h : xH} {o : Int32} {R : Option xV} (hD : 1 ≤ d) (hf : f_Sets_lyingUnder_e i1 v0 h = some o) (K0 : ∀ (a : Int32), o = a → R = some (xi a)) : xEv g l d 40 0 [(0, xi v0), (1, xr 6 (some i1))] [] h R h := by
  unfold f_Sets_lyingUnder_e at hf
  refine xs_iconst (v := 0) d40_0 (by decide) ?_
  refine xe_istore_n (v := (0 : Int32)) (ls2 := [(0, xi v0), (1, xr 6 (some i1)), (2, xi (0 : Int32))]) d40_1 mx40 (by decide) rfl rfl ?_
  refine xs_iconst (v := 0) d40_2 (by decide) ?_
  refine xe_istore_n (v := (0 : Int32)) (ls2 := [(0, xi v0), (1, xr 6 (some i1)), (2, xi (0 : Int32)), (3, xi (0 : Int32))]) d40_3 mx40 (by decide) rfl rfl ?_
  exact f_Sets_lyingUnder_l4_ok hD hf K0
noncomputable def f_Sets_lyingUnder (v0 : Int32) (i1 : Nat) (h : xH) : Option Int32 := f_Sets_lyingUnder_e i1 v0 h
theorem f_Sets_lyingUnder_ok {g : xG} {l : Launch} {d : Nat} {v0 : Int32} {i1 : Nat} {h : xH} {r : Int32} (hD : 1 ≤ d) (hf : f_Sets_lyingUnder v0 i1 h = some r) : xC g l d 40 [xi v0, xr 6 (some i1)] h (some (xi r)) h :=
  xC_of (by decide) (Nat.le_of_ble_eq_true rfl) (f_Sets_lyingUnder_e_ok hD hf (fun _ e => by rw [e]))
theorem d39_0 : decode (xcode 39) 0 = .ok (.iload_n 1, 1) := by decide +kernel
theorem d39_1 : decode (xcode 39) 1 = .ok (.iload_n 1, 1) := by decide +kernel
theorem d39_2 : decode (xcode 39) 2 = .ok (.iconst 1, 1) := by decide +kernel
theorem d39_3 : decode (xcode 39) 3 = .ok (.isub, 1) := by decide +kernel
theorem d39_4 : decode (xcode 39) 4 = .ok (.iand, 1) := by decide +kernel
theorem d39_5 : decode (xcode 39) 5 = .ok (.ifCond .ne 5, 3) := by decide +kernel
theorem d39_8 : decode (xcode 39) 8 = .ok (.iload_n 1, 1) := by decide +kernel
theorem d39_9 : decode (xcode 39) 9 = .ok (.ireturn, 1) := by decide +kernel
theorem d39_10 : decode (xcode 39) 10 = .ok (.iconst 0, 1) := by decide +kernel
theorem d39_11 : decode (xcode 39) 11 = .ok (.istore_n 3, 1) := by decide +kernel
theorem d39_12 : decode (xcode 39) 12 = .ok (.iconst 0, 1) := by decide +kernel
theorem d39_13 : decode (xcode 39) 13 = .ok (.istore 4, 2) := by decide +kernel
theorem d39_15 : decode (xcode 39) 15 = .ok (.iload 4, 2) := by decide +kernel
theorem d39_17 : decode (xcode 39) 17 = .ok (.bipush 8, 2) := by decide +kernel
theorem d39_19 : decode (xcode 39) 19 = .ok (.if_icmp .ge 48, 3) := by decide +kernel
theorem d39_22 : decode (xcode 39) 22 = .ok (.iload_n 1, 1) := by decide +kernel
theorem d39_23 : decode (xcode 39) 23 = .ok (.iload 4, 2) := by decide +kernel
theorem d39_25 : decode (xcode 39) 25 = .ok (.invokestatic 78, 3) := by decide +kernel
theorem d39_28 : decode (xcode 39) 28 = .ok (.ifCond .eq 33, 3) := by decide +kernel
theorem d39_31 : decode (xcode 39) 31 = .ok (.aload_n 0, 1) := by decide +kernel
theorem d39_32 : decode (xcode 39) 32 = .ok (.getfield 21, 3) := by decide +kernel
theorem d39_35 : decode (xcode 39) 35 = .ok (.iload_n 1, 1) := by decide +kernel
theorem d39_36 : decode (xcode 39) 36 = .ok (.iconst 1, 1) := by decide +kernel
theorem d39_37 : decode (xcode 39) 37 = .ok (.iload 4, 2) := by decide +kernel
theorem d39_39 : decode (xcode 39) 39 = .ok (.ishl, 1) := by decide +kernel
theorem d39_40 : decode (xcode 39) 40 = .ok (.iconst (-1), 1) := by decide +kernel
theorem d39_41 : decode (xcode 39) 41 = .ok (.ixor, 1) := by decide +kernel
theorem d39_42 : decode (xcode 39) 42 = .ok (.iand, 1) := by decide +kernel
theorem d39_43 : decode (xcode 39) 43 = .ok (.iaload, 1) := by decide +kernel
theorem d39_44 : decode (xcode 39) 44 = .ok (.iload 4, 2) := by decide +kernel
theorem d39_46 : decode (xcode 39) 46 = .ok (.aload_n 2, 1) := by decide +kernel
theorem d39_47 : decode (xcode 39) 47 = .ok (.invokestatic 119, 3) := by decide +kernel
theorem d39_50 : decode (xcode 39) 50 = .ok (.iand, 1) := by decide +kernel
theorem d39_51 : decode (xcode 39) 51 = .ok (.ifCond .eq 10, 3) := by decide +kernel
theorem d39_54 : decode (xcode 39) 54 = .ok (.iload_n 3, 1) := by decide +kernel
theorem d39_55 : decode (xcode 39) 55 = .ok (.iconst 1, 1) := by decide +kernel
theorem d39_56 : decode (xcode 39) 56 = .ok (.iload 4, 2) := by decide +kernel
theorem d39_58 : decode (xcode 39) 58 = .ok (.ishl, 1) := by decide +kernel
theorem d39_59 : decode (xcode 39) 59 = .ok (.ior, 1) := by decide +kernel
theorem d39_60 : decode (xcode 39) 60 = .ok (.istore_n 3, 1) := by decide +kernel
theorem d39_61 : decode (xcode 39) 61 = .ok (.iinc 4 1, 3) := by decide +kernel
theorem d39_64 : decode (xcode 39) 64 = .ok (.goto (-49), 3) := by decide +kernel
theorem d39_67 : decode (xcode 39) 67 = .ok (.iload_n 3, 1) := by decide +kernel
theorem d39_68 : decode (xcode 39) 68 = .ok (.ireturn, 1) := by decide +kernel
noncomputable def f_Sets_beginnersOf_b61 (i2 : Nat) (v1 : Int32) (v3 : Int32) (v4 : Int32) (h : xH) : Option ((Int32 × Int32) ⊕ Int32) :=
  xlet (v4 + (1 : Int32)) fun v4_6 =>
  some (Sum.inl (v3, v4_6))
set_option maxHeartbeats 4000000 in
set_option maxRecDepth 100000 in
theorem f_Sets_beginnersOf_b61_ok {g : xG} {l : Launch} {d : Nat} {i2 : Nat} {v1 : Int32} {v3 : Int32} {v4 : Int32} {h : xH} {o : ((Int32 × Int32) ⊕ Int32)} {R : Option xV} (hD : 2 ≤ d) (hf : f_Sets_beginnersOf_b61 i2 v1 v3 v4 h = some o) (K1 : ∀ (w3 : Int32) (w4 : Int32), o = Sum.inl (w3, w4) → xEv g l d 39 15 [(0, xr 5 (some 0)), (1, xi v1), (2, xr 6 (some i2)), (3, xi w3), (4, xi w4)] [] h R h) (K0 : ∀ (a : Int32), o = Sum.inr (a) → R = some (xi a)) : xEv g l d 39 61 [(0, xr 5 (some 0)), (1, xi v1), (2, xr 6 (some i2)), (3, xi v3), (4, xi v4)] [] h R h := by
  unfold f_Sets_beginnersOf_b61 at hf
  obtain ⟨v4_6, ev4_6, hf⟩ := lk_let hf
  refine xe_iinc (v := v4_6) (b := 1) (ls2 := [(0, xr 5 (some 0)), (1, xi v1), (2, xr 6 (some i2)), (3, xi v3), (4, xi v4_6)]) d39_61 mx39 (by decide) rfl (by decide) ev4_6 rfl ?_
  refine xs_goto (tgt := 15) d39_64 (by decide) ?_
  exact K1 _ _ (Option.some.inj hf).symm
noncomputable def f_Sets_beginnersOf_s15 (i2 : Nat) (v1 : Int32) (v3 : Int32) (v4 : Int32) (h : xH) : Option ((Int32 × Int32) ⊕ Int32) :=
  if (8 : Int32) ≤ v4 then (
  some (Sum.inr (v3))) else (
  (f_Sets_has v1 v4 h).bind fun r3 =>
  if r3 = (0 : Int32) then (
  f_Sets_beginnersOf_b61 i2 v1 v3 v4 h) else (
  if xib (v1 &&& (((1 : Int32) <<< (v4 &&& 31)) ^^^ (-1 : Int32))) 256 then (
  (f_Sets_lyingUnder v4 i2 h).bind fun r8 =>
  if ((h.2.2.2.1 25 0 (v1 &&& (((1 : Int32) <<< (v4 &&& 31)) ^^^ (-1 : Int32))).toNatClampNeg) &&& r8) = (0 : Int32) then (
  f_Sets_beginnersOf_b61 i2 v1 v3 v4 h) else (
  xlet (v3 ||| ((1 : Int32) <<< (v4 &&& 31))) fun v3_11 =>
  f_Sets_beginnersOf_b61 i2 v1 v3_11 v4 h)) else none))
set_option maxHeartbeats 4000000 in
set_option maxRecDepth 100000 in
theorem f_Sets_beginnersOf_s15_ok {g : xG} {l : Launch} {d : Nat} {i2 : Nat} {v1 : Int32} {v3 : Int32} {v4 : Int32} {h : xH} {o : ((Int32 × Int32) ⊕ Int32)} {R : Option xV} (hD : 2 ≤ d) (hf : f_Sets_beginnersOf_s15 i2 v1 v3 v4 h = some o) (K1 : ∀ (w3 : Int32) (w4 : Int32), o = Sum.inl (w3, w4) → xEv g l d 39 15 [(0, xr 5 (some 0)), (1, xi v1), (2, xr 6 (some i2)), (3, xi w3), (4, xi w4)] [] h R h) (K0 : ∀ (a : Int32), o = Sum.inr (a) → R = some (xi a)) : xEv g l d 39 15 [(0, xr 5 (some 0)), (1, xi v1), (2, xr 6 (some i2)), (3, xi v3), (4, xi v4)] [] h R h := by
  unfold f_Sets_beginnersOf_s15 at hf
  refine xs_iload d39_15 rfl ?_
  refine xs_bipush (v := 8) d39_17 (by decide) ?_
  rcases lk_if hf with ⟨hc2, hf⟩ | ⟨hc2, hf⟩
  · refine xs_icmp_ge (tgt := 67) d39_19 (by decide) (fun _ => ?_) (fun hn => absurd hc2 hn)
    refine xs_iload_n d39_67 rfl ?_
    obtain eR := K0 _ (Option.some.inj hf).symm
    subst eR
    exact xs_iret d39_68 rt39
  · refine xs_icmp_ge (tgt := 67) d39_19 (by decide) (fun hp => absurd hp hc2) (fun _ => ?_)
    refine xs_iload_n d39_22 rfl ?_
    refine xs_iload d39_23 rfl ?_
    obtain ⟨r3, hc4, hf⟩ := lk_b hf
    refine xe_calls1 (as := [xi v1, xi v4]) (st := []) (h2 := h) (d2 := d - 1) d39_25 ky39 ml118 st28 rfl na28 (Nat.le_of_ble_eq_true rfl) (by omega) (f_Sets_has_ok (by omega) hc4) ?_
    rcases lk_if hf with ⟨hc5, hf⟩ | ⟨hc5, hf⟩
    · refine xs_if_eq (tgt := 61) d39_28 (by decide) (fun _ => ?_) (fun hn => absurd hc5 hn)
      exact f_Sets_beginnersOf_b61_ok hD hf K1 K0
    · refine xs_if_eq (tgt := 61) d39_28 (by decide) (fun hp => absurd hp hc5) (fun _ => ?_)
      refine xs_aload_n d39_31 rfl ?_
      refine xe_getc (j := 0) d39_32 ky39 fl136 fk5_10 rfl ?_
      refine xs_iload_n d39_35 rfl ?_
      refine xs_iconst (v := 1) d39_36 (by decide) ?_
      refine xs_iload d39_37 rfl ?_
      refine xs_ishl d39_39 ?_
      refine xs_iconst (v := -1) d39_40 (by decide) ?_
      refine xs_ixor d39_41 ?_
      refine xs_iand d39_42 ?_
      obtain ⟨hin7, hf⟩ := lk_g hf
      refine xe_iald d39_43 (by decide) ak25 hin7 ?_
      refine xs_iload d39_44 rfl ?_
      refine xs_aload_n d39_46 rfl ?_
      obtain ⟨r8, hc9, hf⟩ := lk_b hf
      refine xe_calls1 (as := [xi v4, xr 6 (some i2)]) (st := [xi (h.2.2.2.1 25 0 (v1 &&& (((1 : Int32) <<< (v4 &&& 31)) ^^^ (-1 : Int32))).toNatClampNeg)]) (h2 := h) (d2 := d - 1) d39_47 ky39 ml128 st40 rfl na40 (Nat.le_of_ble_eq_true rfl) (by omega) (f_Sets_lyingUnder_ok (by omega) hc9) ?_
      refine xs_iand d39_50 ?_
      rcases lk_if hf with ⟨hc10, hf⟩ | ⟨hc10, hf⟩
      · refine xs_if_eq (tgt := 61) d39_51 (by decide) (fun _ => ?_) (fun hn => absurd hc10 hn)
        exact f_Sets_beginnersOf_b61_ok hD hf K1 K0
      · refine xs_if_eq (tgt := 61) d39_51 (by decide) (fun hp => absurd hp hc10) (fun _ => ?_)
        refine xs_iload_n d39_54 rfl ?_
        refine xs_iconst (v := 1) d39_55 (by decide) ?_
        refine xs_iload d39_56 rfl ?_
        refine xs_ishl d39_58 ?_
        refine xs_ior d39_59 ?_
        obtain ⟨v3_11, ev3_11, hf⟩ := lk_let hf
        refine xe_istore_n (v := v3_11) (ls2 := [(0, xr 5 (some 0)), (1, xi v1), (2, xr 6 (some i2)), (3, xi v3_11), (4, xi v4)]) d39_60 mx39 (by decide) ev3_11 rfl ?_
        exact f_Sets_beginnersOf_b61_ok hD hf K1 K0
noncomputable def f_Sets_beginnersOf_l15 (i2 : Nat) (v1 : Int32) (v3 : Int32) (v4 : Int32) (h : xH) : Option Int32 :=
  whl (fun s => f_Sets_beginnersOf_s15 i2 v1 s.1 s.2 h) (v3, v4)
theorem f_Sets_beginnersOf_l15_ok {g : xG} {l : Launch} {d : Nat} {i2 : Nat} {v1 : Int32} {v3 : Int32} {v4 : Int32} {h : xH} {o : Int32} {R : Option xV} (hD : 2 ≤ d) (hf : f_Sets_beginnersOf_l15 i2 v1 v3 v4 h = some o) (K0 : ∀ (a : Int32), o = a → R = some (xi a)) : xEv g l d 39 15 [(0, xr 5 (some 0)), (1, xi v1), (2, xr 6 (some i2)), (3, xi v3), (4, xi v4)] [] h R h := by
  obtain ⟨n, hn⟩ := whl_iff.mp hf
  clear hf
  induction n generalizing v3 v4 with
  | zero => cases hn
  | succ n ih =>
    obtain ⟨o2, hs, hn⟩ := lk_b (show (f_Sets_beginnersOf_s15 i2 v1 v3 v4 h).bind (fun o => Sum.elim (itn _ n) some o) = some o from hn)
    exact f_Sets_beginnersOf_s15_ok hD hs (fun u0 u1 e => ih (by rw [e] at hn; exact hn)) (fun u0 e => K0 u0 (by rw [e] at hn; exact (Option.some.inj hn).symm))
noncomputable def f_Sets_beginnersOf_e (i2 : Nat) (v1 : Int32) (h : xH) : Option Int32 :=
  if (v1 &&& (v1 - (1 : Int32))) = (0 : Int32) then (
  some (v1)) else (
  f_Sets_beginnersOf_l15 i2 v1 (0 : Int32) (0 : Int32) h)
set_option maxHeartbeats 4000000 in
set_option maxRecDepth 100000 in
theorem f_Sets_beginnersOf_e_ok {g : xG} {l : Launch} {d : Nat} {i2 : Nat} {v1 : Int32} {h : xH} {o : Int32} {R : Option xV} (hD : 2 ≤ d) (hf : f_Sets_beginnersOf_e i2 v1 h = some o) (K0 : ∀ (a : Int32), o = a → R = some (xi a)) : xEv g l d 39 0 [(0, xr 5 (some 0)), (1, xi v1), (2, xr 6 (some i2))] [] h R h := by
  unfold f_Sets_beginnersOf_e at hf
  refine xs_iload_n d39_0 rfl ?_
  refine xs_iload_n d39_1 rfl ?_
  refine xs_iconst (v := 1) d39_2 (by decide) ?_
  refine xs_isub d39_3 ?_
  refine xs_iand d39_4 ?_
  rcases lk_if hf with ⟨hc1, hf⟩ | ⟨hc1, hf⟩
  · refine xs_if_ne (tgt := 10) d39_5 (by decide) (fun _ => ?_) (fun hn => absurd hc1 hn)
    refine xs_iload_n d39_8 rfl ?_
    obtain eR := K0 _ (Option.some.inj hf).symm
    subst eR
    exact xs_iret d39_9 rt39
  · refine xs_if_ne (tgt := 10) d39_5 (by decide) (fun hp => absurd hp hc1) (fun _ => ?_)
    refine xs_iconst (v := 0) d39_10 (by decide) ?_
    refine xe_istore_n (v := (0 : Int32)) (ls2 := [(0, xr 5 (some 0)), (1, xi v1), (2, xr 6 (some i2)), (3, xi (0 : Int32))]) d39_11 mx39 (by decide) rfl rfl ?_
    refine xs_iconst (v := 0) d39_12 (by decide) ?_
    refine xe_istore (v := (0 : Int32)) (ls2 := [(0, xr 5 (some 0)), (1, xi v1), (2, xr 6 (some i2)), (3, xi (0 : Int32)), (4, xi (0 : Int32))]) d39_13 mx39 (by decide) rfl rfl ?_
    exact f_Sets_beginnersOf_l15_ok hD hf K0
noncomputable def f_Sets_beginnersOf (v1 : Int32) (i2 : Nat) (h : xH) : Option Int32 := f_Sets_beginnersOf_e i2 v1 h
theorem f_Sets_beginnersOf_ok {g : xG} {l : Launch} {d : Nat} {v1 : Int32} {i2 : Nat} {h : xH} {r : Int32} (hD : 2 ≤ d) (hf : f_Sets_beginnersOf v1 i2 h = some r) : xC g l d 39 [xr 5 (some 0), xi v1, xr 6 (some i2)] h (some (xi r)) h :=
  xC_of (by decide) (Nat.le_of_ble_eq_true rfl) (f_Sets_beginnersOf_e_ok hD hf (fun _ e => by rw [e]))
theorem d38_0 : decode (xcode 38) 0 = .ok (.iload_n 1, 1) := by decide +kernel
theorem d38_1 : decode (xcode 38) 1 = .ok (.aload_n 0, 1) := by decide +kernel
theorem d38_2 : decode (xcode 38) 2 = .ok (.getfield 105, 3) := by decide +kernel
theorem d38_5 : decode (xcode 38) 5 = .ok (.if_icmp .gt 19, 3) := by decide +kernel
theorem d38_8 : decode (xcode 38) 8 = .ok (.iload_n 1, 1) := by decide +kernel
theorem d38_9 : decode (xcode 38) 9 = .ok (.aload_n 0, 1) := by decide +kernel
theorem d38_10 : decode (xcode 38) 10 = .ok (.getfield 105, 3) := by decide +kernel
theorem d38_13 : decode (xcode 38) 13 = .ok (.if_icmp .ne 21, 3) := by decide +kernel
theorem d38_16 : decode (xcode 38) 16 = .ok (.iload_n 2, 1) := by decide +kernel
theorem d38_17 : decode (xcode 38) 17 = .ok (.aload_n 0, 1) := by decide +kernel
theorem d38_18 : decode (xcode 38) 18 = .ok (.getfield 108, 3) := by decide +kernel
theorem d38_21 : decode (xcode 38) 21 = .ok (.if_icmp .ge 13, 3) := by decide +kernel
theorem d38_24 : decode (xcode 38) 24 = .ok (.aload_n 0, 1) := by decide +kernel
theorem d38_25 : decode (xcode 38) 25 = .ok (.iload_n 1, 1) := by decide +kernel
theorem d38_26 : decode (xcode 38) 26 = .ok (.putfield 105, 3) := by decide +kernel
theorem d38_29 : decode (xcode 38) 29 = .ok (.aload_n 0, 1) := by decide +kernel
theorem d38_30 : decode (xcode 38) 30 = .ok (.iload_n 2, 1) := by decide +kernel
theorem d38_31 : decode (xcode 38) 31 = .ok (.putfield 108, 3) := by decide +kernel
theorem d38_34 : decode (xcode 38) 34 = .ok (.return_, 1) := by decide +kernel
noncomputable def f_Sets_keepChain_b24 (v1 : Int32) (v2 : Int32) (h : xH) : Option xH :=
  xlet (xsI h 5 4 0 v1) fun h2 =>
  xlet (xsI h2 5 5 0 v2) fun h3 =>
  some (h3)
set_option maxHeartbeats 4000000 in
set_option maxRecDepth 100000 in
theorem f_Sets_keepChain_b24_ok {g : xG} {l : Launch} {d : Nat} {v1 : Int32} {v2 : Int32} {h : xH} {o : xH} {R : Option xV} {H' : xH} (hD : 0 ≤ d) (hf : f_Sets_keepChain_b24 v1 v2 h = some o) (K0 : ∀ (h1 : xH), o = h1 → R = none ∧ H' = h1) : xEv g l d 38 24 [(0, xr 5 (some 0)), (1, xi v1), (2, xi v2)] [] h R H' := by
  unfold f_Sets_keepChain_b24 at hf
  refine xs_aload_n d38_24 rfl ?_
  refine xs_iload_n d38_25 rfl ?_
  obtain ⟨h2, eh2, hf⟩ := lk_let hf
  refine xe_puti d38_26 ky38 fl126 fk5_4 ft5_4 eh2 ?_
  refine xs_aload_n d38_29 rfl ?_
  refine xs_iload_n d38_30 rfl ?_
  obtain ⟨h3, eh3, hf⟩ := lk_let hf
  refine xe_puti d38_31 ky38 fl128 fk5_5 ft5_5 eh3 ?_
  obtain ⟨eR, eH⟩ := K0 _ (Option.some.inj hf).symm
  subst eR; subst eH
  exact xs_vret d38_34 rt38
noncomputable def f_Sets_keepChain_e (v1 : Int32) (v2 : Int32) (h : xH) : Option xH :=
  if (h.1 5 4 0) < v1 then (
  f_Sets_keepChain_b24 v1 v2 h) else (
  if v1 = (h.1 5 4 0) then (
  if (h.1 5 5 0) ≤ v2 then (
  some (h)) else (
  f_Sets_keepChain_b24 v1 v2 h)) else (
  some (h)))
set_option maxHeartbeats 4000000 in
set_option maxRecDepth 100000 in
theorem f_Sets_keepChain_e_ok {g : xG} {l : Launch} {d : Nat} {v1 : Int32} {v2 : Int32} {h : xH} {o : xH} {R : Option xV} {H' : xH} (hD : 0 ≤ d) (hf : f_Sets_keepChain_e v1 v2 h = some o) (K0 : ∀ (h1 : xH), o = h1 → R = none ∧ H' = h1) : xEv g l d 38 0 [(0, xr 5 (some 0)), (1, xi v1), (2, xi v2)] [] h R H' := by
  unfold f_Sets_keepChain_e at hf
  refine xs_iload_n d38_0 rfl ?_
  refine xs_aload_n d38_1 rfl ?_
  refine xe_geti d38_2 ky38 fl126 fk5_4 ?_
  rcases lk_if hf with ⟨hc1, hf⟩ | ⟨hc1, hf⟩
  · refine xs_icmp_gt (tgt := 24) d38_5 (by decide) (fun _ => ?_) (fun hn => absurd hc1 hn)
    exact f_Sets_keepChain_b24_ok hD hf K0
  · refine xs_icmp_gt (tgt := 24) d38_5 (by decide) (fun hp => absurd hp hc1) (fun _ => ?_)
    refine xs_iload_n d38_8 rfl ?_
    refine xs_aload_n d38_9 rfl ?_
    refine xe_geti d38_10 ky38 fl126 fk5_4 ?_
    rcases lk_if hf with ⟨hc4, hf⟩ | ⟨hc4, hf⟩
    · refine xs_icmp_ne (tgt := 34) d38_13 (by decide) (fun _ => ?_) (fun hn => absurd hc4 hn)
      refine xs_iload_n d38_16 rfl ?_
      refine xs_aload_n d38_17 rfl ?_
      refine xe_geti d38_18 ky38 fl128 fk5_5 ?_
      rcases lk_if hf with ⟨hc5, hf⟩ | ⟨hc5, hf⟩
      · refine xs_icmp_ge (tgt := 34) d38_21 (by decide) (fun _ => ?_) (fun hn => absurd hc5 hn)
        obtain ⟨eR, eH⟩ := K0 _ (Option.some.inj hf).symm
        subst eR; subst eH
        exact xs_vret d38_34 rt38
      · refine xs_icmp_ge (tgt := 34) d38_21 (by decide) (fun hp => absurd hp hc5) (fun _ => ?_)
        exact f_Sets_keepChain_b24_ok hD hf K0
    · refine xs_icmp_ne (tgt := 34) d38_13 (by decide) (fun hp => absurd hp hc4) (fun _ => ?_)
      obtain ⟨eR, eH⟩ := K0 _ (Option.some.inj hf).symm
      subst eR; subst eH
      exact xs_vret d38_34 rt38
noncomputable def f_Sets_keepChain (v1 : Int32) (v2 : Int32) (h : xH) : Option xH := f_Sets_keepChain_e v1 v2 h
theorem f_Sets_keepChain_ok {g : xG} {l : Launch} {d : Nat} {v1 : Int32} {v2 : Int32} {h : xH} {h1 : xH} (hD : 0 ≤ d) (hf : f_Sets_keepChain v1 v2 h = some h1) : xC g l d 38 [xr 5 (some 0), xi v1, xi v2] h none h1 :=
  xC_of (by decide) (Nat.le_of_ble_eq_true rfl) (f_Sets_keepChain_e_ok hD hf (fun _ e => ⟨rfl, e⟩))
