theorem d74_0 : decode (xcode 74) 0 = .ok (.aload_n 0, 1) := by decide +kernel
theorem d74_1 : decode (xcode 74) 1 = .ok (.iconst 0, 1) := by decide +kernel
theorem d74_2 : decode (xcode 74) 2 = .ok (.putfield 27, 3) := by decide +kernel
theorem d74_5 : decode (xcode 74) 5 = .ok (.aload_n 0, 1) := by decide +kernel
theorem d74_6 : decode (xcode 74) 6 = .ok (.iconst 0, 1) := by decide +kernel
theorem d74_7 : decode (xcode 74) 7 = .ok (.putfield 31, 3) := by decide +kernel
theorem d74_10 : decode (xcode 74) 10 = .ok (.aload_n 0, 1) := by decide +kernel
theorem d74_11 : decode (xcode 74) 11 = .ok (.iconst 0, 1) := by decide +kernel
theorem d74_12 : decode (xcode 74) 12 = .ok (.putfield 35, 3) := by decide +kernel
theorem d74_15 : decode (xcode 74) 15 = .ok (.aload_n 0, 1) := by decide +kernel
theorem d74_16 : decode (xcode 74) 16 = .ok (.iconst 0, 1) := by decide +kernel
theorem d74_17 : decode (xcode 74) 17 = .ok (.putfield 38, 3) := by decide +kernel
theorem d74_20 : decode (xcode 74) 20 = .ok (.aload_n 0, 1) := by decide +kernel
theorem d74_21 : decode (xcode 74) 21 = .ok (.iconst 0, 1) := by decide +kernel
theorem d74_22 : decode (xcode 74) 22 = .ok (.putfield 41, 3) := by decide +kernel
theorem d74_25 : decode (xcode 74) 25 = .ok (.iconst 0, 1) := by decide +kernel
theorem d74_26 : decode (xcode 74) 26 = .ok (.istore_n 1, 1) := by decide +kernel
theorem d74_27 : decode (xcode 74) 27 = .ok (.iload_n 1, 1) := by decide +kernel
theorem d74_28 : decode (xcode 74) 28 = .ok (.bipush 8, 2) := by decide +kernel
theorem d74_30 : decode (xcode 74) 30 = .ok (.if_icmp .ge 37, 3) := by decide +kernel
theorem d74_33 : decode (xcode 74) 33 = .ok (.aload_n 0, 1) := by decide +kernel
theorem d74_34 : decode (xcode 74) 34 = .ok (.getfield 9, 3) := by decide +kernel
theorem d74_37 : decode (xcode 74) 37 = .ok (.iload_n 1, 1) := by decide +kernel
theorem d74_38 : decode (xcode 74) 38 = .ok (.iconst 0, 1) := by decide +kernel
theorem d74_39 : decode (xcode 74) 39 = .ok (.iastore, 1) := by decide +kernel
theorem d74_40 : decode (xcode 74) 40 = .ok (.aload_n 0, 1) := by decide +kernel
theorem d74_41 : decode (xcode 74) 41 = .ok (.getfield 15, 3) := by decide +kernel
theorem d74_44 : decode (xcode 74) 44 = .ok (.iload_n 1, 1) := by decide +kernel
theorem d74_45 : decode (xcode 74) 45 = .ok (.iconst 0, 1) := by decide +kernel
theorem d74_46 : decode (xcode 74) 46 = .ok (.iastore, 1) := by decide +kernel
theorem d74_47 : decode (xcode 74) 47 = .ok (.aload_n 0, 1) := by decide +kernel
theorem d74_48 : decode (xcode 74) 48 = .ok (.getfield 18, 3) := by decide +kernel
theorem d74_51 : decode (xcode 74) 51 = .ok (.iload_n 1, 1) := by decide +kernel
theorem d74_52 : decode (xcode 74) 52 = .ok (.iconst 0, 1) := by decide +kernel
theorem d74_53 : decode (xcode 74) 53 = .ok (.iastore, 1) := by decide +kernel
theorem d74_54 : decode (xcode 74) 54 = .ok (.aload_n 0, 1) := by decide +kernel
theorem d74_55 : decode (xcode 74) 55 = .ok (.getfield 21, 3) := by decide +kernel
theorem d74_58 : decode (xcode 74) 58 = .ok (.iload_n 1, 1) := by decide +kernel
theorem d74_59 : decode (xcode 74) 59 = .ok (.iconst 0, 1) := by decide +kernel
theorem d74_60 : decode (xcode 74) 60 = .ok (.iastore, 1) := by decide +kernel
theorem d74_61 : decode (xcode 74) 61 = .ok (.iinc 1 1, 3) := by decide +kernel
theorem d74_64 : decode (xcode 74) 64 = .ok (.goto (-37), 3) := by decide +kernel
theorem d74_67 : decode (xcode 74) 67 = .ok (.iconst 0, 1) := by decide +kernel
theorem d74_68 : decode (xcode 74) 68 = .ok (.istore_n 1, 1) := by decide +kernel
theorem d74_69 : decode (xcode 74) 69 = .ok (.iload_n 1, 1) := by decide +kernel
theorem d74_70 : decode (xcode 74) 70 = .ok (.iconst 4, 1) := by decide +kernel
theorem d74_71 : decode (xcode 74) 71 = .ok (.if_icmp .ge 16, 3) := by decide +kernel
theorem d74_74 : decode (xcode 74) 74 = .ok (.aload_n 0, 1) := by decide +kernel
theorem d74_75 : decode (xcode 74) 75 = .ok (.getfield 24, 3) := by decide +kernel
theorem d74_78 : decode (xcode 74) 78 = .ok (.iload_n 1, 1) := by decide +kernel
theorem d74_79 : decode (xcode 74) 79 = .ok (.iconst 0, 1) := by decide +kernel
theorem d74_80 : decode (xcode 74) 80 = .ok (.iastore, 1) := by decide +kernel
theorem d74_81 : decode (xcode 74) 81 = .ok (.iinc 1 1, 3) := by decide +kernel
theorem d74_84 : decode (xcode 74) 84 = .ok (.goto (-15), 3) := by decide +kernel
theorem d74_87 : decode (xcode 74) 87 = .ok (.return_, 1) := by decide +kernel
noncomputable def f_Told_clear_s69 (i0 : Nat) (v1 : Int32) (h : xH) : Option ((Int32 × xH) ⊕ xH) :=
  if (4 : Int32) ≤ v1 then (
  some (Sum.inr (h))) else (
  if xib v1 4 then (
  xlet (xsA h 41 i0 (upd (h.2.2.2.1 41 i0) (v1).toNatClampNeg (0 : Int32))) fun h9 =>
  xlet (v1 + (1 : Int32)) fun v1_10 =>
  some (Sum.inl (v1_10, h9))) else none)
set_option maxHeartbeats 4000000 in
set_option maxRecDepth 100000 in
theorem f_Told_clear_s69_ok {g : xG} {l : Launch} {d : Nat} {i0 : Nat} {v1 : Int32} {h : xH} {o : ((Int32 × xH) ⊕ xH)} {R : Option xV} {H' : xH} (hD : 0 ≤ d) (hf : f_Told_clear_s69 i0 v1 h = some o) (K1 : ∀ (w1 : Int32) (h1 : xH), o = Sum.inl (w1, h1) → xEv g l d 74 69 [(0, xr 8 (some i0)), (1, xi w1)] [] h1 R H') (K0 : ∀ (h1 : xH), o = Sum.inr (h1) → R = none ∧ H' = h1) : xEv g l d 74 69 [(0, xr 8 (some i0)), (1, xi v1)] [] h R H' := by
  unfold f_Told_clear_s69 at hf
  refine xs_iload_n d74_69 rfl ?_
  refine xs_iconst (v := 4) d74_70 (by decide) ?_
  rcases lk_if hf with ⟨hc7, hf⟩ | ⟨hc7, hf⟩
  · refine xs_icmp_ge (tgt := 87) d74_71 (by decide) (fun _ => ?_) (fun hn => absurd hc7 hn)
    obtain ⟨eR, eH⟩ := K0 _ (Option.some.inj hf).symm
    subst eR; subst eH
    exact xs_vret d74_87 rt74
  · refine xs_icmp_ge (tgt := 87) d74_71 (by decide) (fun hp => absurd hp hc7) (fun _ => ?_)
    refine xs_aload_n d74_74 rfl ?_
    refine xe_getc (j := i0) d74_75 ky74 fl51 fk8_9 (by omega) ?_
    refine xs_iload_n d74_78 rfl ?_
    refine xs_iconst (v := 0) d74_79 (by decide) ?_
    obtain ⟨hin8, hf⟩ := lk_g hf
    obtain ⟨h9, eh9, hf⟩ := lk_let hf
    refine xe_iast d74_80 (by decide) ak41 hin8  eh9 ?_
    obtain ⟨v1_10, ev1_10, hf⟩ := lk_let hf
    refine xe_iinc (v := v1_10) (b := 1) (ls2 := [(0, xr 8 (some i0)), (1, xi v1_10)]) d74_81 mx74 (by decide) rfl (by decide) ev1_10 rfl ?_
    refine xs_goto (tgt := 69) d74_84 (by decide) ?_
    exact K1 _ _ (Option.some.inj hf).symm
noncomputable def f_Told_clear_l69 (i0 : Nat) (v1 : Int32) (h : xH) : Option xH :=
  whl (fun s => f_Told_clear_s69 i0 s.1 s.2) (v1, h)
theorem f_Told_clear_l69_ok {g : xG} {l : Launch} {d : Nat} {i0 : Nat} {v1 : Int32} {h : xH} {o : xH} {R : Option xV} {H' : xH} (hD : 0 ≤ d) (hf : f_Told_clear_l69 i0 v1 h = some o) (K0 : ∀ (h1 : xH), o = h1 → R = none ∧ H' = h1) : xEv g l d 74 69 [(0, xr 8 (some i0)), (1, xi v1)] [] h R H' := by
  obtain ⟨n, hn⟩ := whl_iff.mp hf
  clear hf
  induction n generalizing v1 h with
  | zero => cases hn
  | succ n ih =>
    obtain ⟨o2, hs, hn⟩ := lk_b (show (f_Told_clear_s69 i0 v1 h).bind (fun o => Sum.elim (itn _ n) some o) = some o from hn)
    exact f_Told_clear_s69_ok hD hs (fun u0 u1 e => ih (by rw [e] at hn; exact hn)) (fun u0 e => K0 u0 (by rw [e] at hn; exact (Option.some.inj hn).symm))
noncomputable def f_Told_clear_b67 (i0 : Nat) (h : xH) : Option xH :=
  f_Told_clear_l69 i0 (0 : Int32) h
set_option maxHeartbeats 4000000 in
set_option maxRecDepth 100000 in
theorem f_Told_clear_b67_ok {g : xG} {l : Launch} {d : Nat} {i0 : Nat} {h : xH} {o : xH} {R : Option xV} {H' : xH} (hD : 0 ≤ d) (hf : f_Told_clear_b67 i0 h = some o) (K0 : ∀ (h1 : xH), o = h1 → R = none ∧ H' = h1) : xEv g l d 74 67 [(0, xr 8 (some i0))] [] h R H' := by
  unfold f_Told_clear_b67 at hf
  refine xs_iconst (v := 0) d74_67 (by decide) ?_
  refine xe_istore_n (v := (0 : Int32)) (ls2 := [(0, xr 8 (some i0)), (1, xi (0 : Int32))]) d74_68 mx74 (by decide) rfl rfl ?_
  exact f_Told_clear_l69_ok hD hf K0
noncomputable def f_Told_clear_s27 (i0 : Nat) (v1 : Int32) (h : xH) : Option ((Int32 × xH) ⊕ xH) :=
  if (8 : Int32) ≤ v1 then (
  xup (f_Told_clear_b67 i0 h)) else (
  if xib v1 8 then (
  xlet (xsA h 37 i0 (upd (h.2.2.2.1 37 i0) (v1).toNatClampNeg (0 : Int32))) fun h12 =>
  if xib v1 8 then (
  xlet (xsA h12 38 i0 (upd (h12.2.2.2.1 38 i0) (v1).toNatClampNeg (0 : Int32))) fun h14 =>
  if xib v1 8 then (
  xlet (xsA h14 39 i0 (upd (h14.2.2.2.1 39 i0) (v1).toNatClampNeg (0 : Int32))) fun h16 =>
  if xib v1 8 then (
  xlet (xsA h16 40 i0 (upd (h16.2.2.2.1 40 i0) (v1).toNatClampNeg (0 : Int32))) fun h18 =>
  xlet (v1 + (1 : Int32)) fun v1_19 =>
  some (Sum.inl (v1_19, h18))) else none) else none) else none) else none)
set_option maxHeartbeats 4000000 in
set_option maxRecDepth 100000 in
theorem f_Told_clear_s27_ok {g : xG} {l : Launch} {d : Nat} {i0 : Nat} {v1 : Int32} {h : xH} {o : ((Int32 × xH) ⊕ xH)} {R : Option xV} {H' : xH} (hD : 0 ≤ d) (hf : f_Told_clear_s27 i0 v1 h = some o) (K1 : ∀ (w1 : Int32) (h1 : xH), o = Sum.inl (w1, h1) → xEv g l d 74 27 [(0, xr 8 (some i0)), (1, xi w1)] [] h1 R H') (K0 : ∀ (h1 : xH), o = Sum.inr (h1) → R = none ∧ H' = h1) : xEv g l d 74 27 [(0, xr 8 (some i0)), (1, xi v1)] [] h R H' := by
  unfold f_Told_clear_s27 at hf
  refine xs_iload_n d74_27 rfl ?_
  refine xs_bipush (v := 8) d74_28 (by decide) ?_
  rcases lk_if hf with ⟨hc6, hf⟩ | ⟨hc6, hf⟩
  · refine xs_icmp_ge (tgt := 67) d74_30 (by decide) (fun _ => ?_) (fun hn => absurd hc6 hn)
    refine xs_pick [0] rfl ?_
    obtain ⟨x0, hf, ex0⟩ := lk_up hf
    exact f_Told_clear_b67_ok hD hf (fun u0 e => K0 u0 (ex0.trans (congrArg Sum.inr e)))
  · refine xs_icmp_ge (tgt := 67) d74_30 (by decide) (fun hp => absurd hp hc6) (fun _ => ?_)
    refine xs_aload_n d74_33 rfl ?_
    refine xe_getc (j := i0) d74_34 ky74 fl37 fk8_5 (by omega) ?_
    refine xs_iload_n d74_37 rfl ?_
    refine xs_iconst (v := 0) d74_38 (by decide) ?_
    obtain ⟨hin11, hf⟩ := lk_g hf
    obtain ⟨h12, eh12, hf⟩ := lk_let hf
    refine xe_iast d74_39 (by decide) ak37 hin11  eh12 ?_
    refine xs_aload_n d74_40 rfl ?_
    refine xe_getc (j := i0) d74_41 ky74 fl40 fk8_6 (by omega) ?_
    refine xs_iload_n d74_44 rfl ?_
    refine xs_iconst (v := 0) d74_45 (by decide) ?_
    obtain ⟨hin13, hf⟩ := lk_g hf
    obtain ⟨h14, eh14, hf⟩ := lk_let hf
    refine xe_iast d74_46 (by decide) ak38 hin13  eh14 ?_
    refine xs_aload_n d74_47 rfl ?_
    refine xe_getc (j := i0) d74_48 ky74 fl43 fk8_7 (by omega) ?_
    refine xs_iload_n d74_51 rfl ?_
    refine xs_iconst (v := 0) d74_52 (by decide) ?_
    obtain ⟨hin15, hf⟩ := lk_g hf
    obtain ⟨h16, eh16, hf⟩ := lk_let hf
    refine xe_iast d74_53 (by decide) ak39 hin15  eh16 ?_
    refine xs_aload_n d74_54 rfl ?_
    refine xe_getc (j := i0) d74_55 ky74 fl48 fk8_8 (by omega) ?_
    refine xs_iload_n d74_58 rfl ?_
    refine xs_iconst (v := 0) d74_59 (by decide) ?_
    obtain ⟨hin17, hf⟩ := lk_g hf
    obtain ⟨h18, eh18, hf⟩ := lk_let hf
    refine xe_iast d74_60 (by decide) ak40 hin17  eh18 ?_
    obtain ⟨v1_19, ev1_19, hf⟩ := lk_let hf
    refine xe_iinc (v := v1_19) (b := 1) (ls2 := [(0, xr 8 (some i0)), (1, xi v1_19)]) d74_61 mx74 (by decide) rfl (by decide) ev1_19 rfl ?_
    refine xs_goto (tgt := 27) d74_64 (by decide) ?_
    exact K1 _ _ (Option.some.inj hf).symm
noncomputable def f_Told_clear_l27 (i0 : Nat) (v1 : Int32) (h : xH) : Option xH :=
  whl (fun s => f_Told_clear_s27 i0 s.1 s.2) (v1, h)
theorem f_Told_clear_l27_ok {g : xG} {l : Launch} {d : Nat} {i0 : Nat} {v1 : Int32} {h : xH} {o : xH} {R : Option xV} {H' : xH} (hD : 0 ≤ d) (hf : f_Told_clear_l27 i0 v1 h = some o) (K0 : ∀ (h1 : xH), o = h1 → R = none ∧ H' = h1) : xEv g l d 74 27 [(0, xr 8 (some i0)), (1, xi v1)] [] h R H' := by
  obtain ⟨n, hn⟩ := whl_iff.mp hf
  clear hf
  induction n generalizing v1 h with
  | zero => cases hn
  | succ n ih =>
    obtain ⟨o2, hs, hn⟩ := lk_b (show (f_Told_clear_s27 i0 v1 h).bind (fun o => Sum.elim (itn _ n) some o) = some o from hn)
    exact f_Told_clear_s27_ok hD hs (fun u0 u1 e => ih (by rw [e] at hn; exact hn)) (fun u0 e => K0 u0 (by rw [e] at hn; exact (Option.some.inj hn).symm))
noncomputable def f_Told_clear_e (i0 : Nat) (h : xH) : Option xH :=
  xlet (xsI h 8 0 i0 (0 : Int32)) fun h1 =>
  xlet (xsI h1 8 1 i0 (0 : Int32)) fun h2 =>
  xlet (xsI h2 8 2 i0 (0 : Int32)) fun h3 =>
  xlet (xsI h3 8 3 i0 (0 : Int32)) fun h4 =>
  xlet (xsI h4 8 4 i0 (0 : Int32)) fun h5 =>
  f_Told_clear_l27 i0 (0 : Int32) h5
set_option maxHeartbeats 4000000 in
set_option maxRecDepth 100000 in
theorem f_Told_clear_e_ok {g : xG} {l : Launch} {d : Nat} {i0 : Nat} {h : xH} {o : xH} {R : Option xV} {H' : xH} (hD : 0 ≤ d) (hf : f_Told_clear_e i0 h = some o) (K0 : ∀ (h1 : xH), o = h1 → R = none ∧ H' = h1) : xEv g l d 74 0 [(0, xr 8 (some i0))] [] h R H' := by
  unfold f_Told_clear_e at hf
  refine xs_aload_n d74_0 rfl ?_
  refine xs_iconst (v := 0) d74_1 (by decide) ?_
  obtain ⟨h1, eh1, hf⟩ := lk_let hf
  refine xe_putz d74_2 ky74 fl17 fk8_0 ft8_0 (Or.inl rfl) eh1 ?_
  refine xs_aload_n d74_5 rfl ?_
  refine xs_iconst (v := 0) d74_6 (by decide) ?_
  obtain ⟨h2, eh2, hf⟩ := lk_let hf
  refine xe_puti d74_7 ky74 fl20 fk8_1 ft8_1 eh2 ?_
  refine xs_aload_n d74_10 rfl ?_
  refine xs_iconst (v := 0) d74_11 (by decide) ?_
  obtain ⟨h3, eh3, hf⟩ := lk_let hf
  refine xe_puti d74_12 ky74 fl25 fk8_2 ft8_2 eh3 ?_
  refine xs_aload_n d74_15 rfl ?_
  refine xs_iconst (v := 0) d74_16 (by decide) ?_
  obtain ⟨h4, eh4, hf⟩ := lk_let hf
  refine xe_puti d74_17 ky74 fl30 fk8_3 ft8_3 eh4 ?_
  refine xs_aload_n d74_20 rfl ?_
  refine xs_iconst (v := 0) d74_21 (by decide) ?_
  obtain ⟨h5, eh5, hf⟩ := lk_let hf
  refine xe_puti d74_22 ky74 fl33 fk8_4 ft8_4 eh5 ?_
  refine xs_iconst (v := 0) d74_25 (by decide) ?_
  refine xe_istore_n (v := (0 : Int32)) (ls2 := [(0, xr 8 (some i0)), (1, xi (0 : Int32))]) d74_26 mx74 (by decide) rfl rfl ?_
  exact f_Told_clear_l27_ok hD hf K0
noncomputable def f_Told_clear (i0 : Nat) (h : xH) : Option xH := f_Told_clear_e i0 h
theorem f_Told_clear_ok {g : xG} {l : Launch} {d : Nat} {i0 : Nat} {h : xH} {h1 : xH} (hD : 0 ≤ d) (hf : f_Told_clear i0 h = some h1) : xC g l d 74 [xr 8 (some i0)] h none h1 :=
  xC_of2 (by decide) mx74 (Nat.le_of_ble_eq_true rfl) (f_Told_clear_e_ok hD hf (fun _ e => ⟨rfl, e⟩))
theorem d76_0 : decode (xcode 76) 0 = .ok (.iload_n 1, 1) := by decide +kernel
theorem d76_1 : decode (xcode 76) 1 = .ok (.ifCond .lt 21, 3) := by decide +kernel
theorem d76_4 : decode (xcode 76) 4 = .ok (.iload_n 1, 1) := by decide +kernel
theorem d76_5 : decode (xcode 76) 5 = .ok (.aload_n 0, 1) := by decide +kernel
theorem d76_6 : decode (xcode 76) 6 = .ok (.getfield 38, 3) := by decide +kernel
theorem d76_9 : decode (xcode 76) 9 = .ok (.if_icmp .ge 13, 3) := by decide +kernel
theorem d76_12 : decode (xcode 76) 12 = .ok (.iload_n 1, 1) := by decide +kernel
theorem d76_13 : decode (xcode 76) 13 = .ok (.bipush 8, 2) := by decide +kernel
theorem d76_15 : decode (xcode 76) 15 = .ok (.if_icmp .ge 7, 3) := by decide +kernel
theorem d76_18 : decode (xcode 76) 18 = .ok (.iconst 1, 1) := by decide +kernel
theorem d76_19 : decode (xcode 76) 19 = .ok (.goto 4, 3) := by decide +kernel
theorem d76_22 : decode (xcode 76) 22 = .ok (.iconst 0, 1) := by decide +kernel
theorem d76_23 : decode (xcode 76) 23 = .ok (.ireturn, 1) := by decide +kernel
noncomputable def f_Told_hasSorrow_e (i0 : Nat) (v1 : Int32) (h : xH) : Option Int32 :=
  if v1 < (0 : Int32) then (
  some ((0 : Int32))) else (
  if (h.1 8 3 i0) ≤ v1 then (
  some ((0 : Int32))) else (
  if (8 : Int32) ≤ v1 then (
  some ((0 : Int32))) else (
  some ((1 : Int32)))))
set_option maxHeartbeats 4000000 in
set_option maxRecDepth 100000 in
theorem f_Told_hasSorrow_e_ok {g : xG} {l : Launch} {d : Nat} {i0 : Nat} {v1 : Int32} {h : xH} {o : Int32} {R : Option xV} (hD : 0 ≤ d) (hf : f_Told_hasSorrow_e i0 v1 h = some o) (K0 : ∀ (a : Int32), o = a → R = some (xi a)) : xEv g l d 76 0 [(0, xr 8 (some i0)), (1, xi v1)] [] h R h := by
  unfold f_Told_hasSorrow_e at hf
  refine xs_iload_n d76_0 rfl ?_
  rcases lk_if hf with ⟨hc1, hf⟩ | ⟨hc1, hf⟩
  · refine xs_if_lt (tgt := 22) d76_1 (by decide) (fun _ => ?_) (fun hn => absurd hc1 hn)
    refine xs_iconst (v := 0) d76_22 (by decide) ?_
    obtain eR := K0 _ (Option.some.inj hf).symm
    subst eR
    exact xe_zret d76_23 (Or.inl rfl) rt76
  · refine xs_if_lt (tgt := 22) d76_1 (by decide) (fun hp => absurd hp hc1) (fun _ => ?_)
    refine xs_iload_n d76_4 rfl ?_
    refine xs_aload_n d76_5 rfl ?_
    refine xe_geti d76_6 ky76 fl30 fk8_3 ?_
    rcases lk_if hf with ⟨hc2, hf⟩ | ⟨hc2, hf⟩
    · refine xs_icmp_ge (tgt := 22) d76_9 (by decide) (fun _ => ?_) (fun hn => absurd hc2 hn)
      refine xs_iconst (v := 0) d76_22 (by decide) ?_
      obtain eR := K0 _ (Option.some.inj hf).symm
      subst eR
      exact xe_zret d76_23 (Or.inl rfl) rt76
    · refine xs_icmp_ge (tgt := 22) d76_9 (by decide) (fun hp => absurd hp hc2) (fun _ => ?_)
      refine xs_iload_n d76_12 rfl ?_
      refine xs_bipush (v := 8) d76_13 (by decide) ?_
      rcases lk_if hf with ⟨hc3, hf⟩ | ⟨hc3, hf⟩
      · refine xs_icmp_ge (tgt := 22) d76_15 (by decide) (fun _ => ?_) (fun hn => absurd hc3 hn)
        refine xs_iconst (v := 0) d76_22 (by decide) ?_
        obtain eR := K0 _ (Option.some.inj hf).symm
        subst eR
        exact xe_zret d76_23 (Or.inl rfl) rt76
      · refine xs_icmp_ge (tgt := 22) d76_15 (by decide) (fun hp => absurd hp hc3) (fun _ => ?_)
        refine xs_iconst (v := 1) d76_18 (by decide) ?_
        refine xs_goto (tgt := 23) d76_19 (by decide) ?_
        obtain eR := K0 _ (Option.some.inj hf).symm
        subst eR
        exact xe_zret d76_23 (Or.inr rfl) rt76
noncomputable def f_Told_hasSorrow (i0 : Nat) (v1 : Int32) (h : xH) : Option Int32 := f_Told_hasSorrow_e i0 v1 h
theorem f_Told_hasSorrow_ok {g : xG} {l : Launch} {d : Nat} {i0 : Nat} {v1 : Int32} {h : xH} {r : Int32} (hD : 0 ≤ d) (hf : f_Told_hasSorrow i0 v1 h = some r) : xC g l d 76 [xr 8 (some i0), xi v1] h (some (xi r)) h :=
  xC_of2 (by decide) mx76 (Nat.le_of_ble_eq_true rfl) (f_Told_hasSorrow_e_ok hD hf (fun _ e => by rw [e]))
theorem d77_0 : decode (xcode 77) 0 = .ok (.iconst 0, 1) := by decide +kernel
theorem d77_1 : decode (xcode 77) 1 = .ok (.istore_n 2, 1) := by decide +kernel
theorem d77_2 : decode (xcode 77) 2 = .ok (.iconst 0, 1) := by decide +kernel
theorem d77_3 : decode (xcode 77) 3 = .ok (.istore_n 3, 1) := by decide +kernel
theorem d77_4 : decode (xcode 77) 4 = .ok (.iload_n 3, 1) := by decide +kernel
theorem d77_5 : decode (xcode 77) 5 = .ok (.bipush 8, 2) := by decide +kernel
theorem d77_7 : decode (xcode 77) 7 = .ok (.if_icmp .ge 26, 3) := by decide +kernel
theorem d77_10 : decode (xcode 77) 10 = .ok (.iload_n 1, 1) := by decide +kernel
theorem d77_11 : decode (xcode 77) 11 = .ok (.iload_n 3, 1) := by decide +kernel
theorem d77_12 : decode (xcode 77) 12 = .ok (.ishr, 1) := by decide +kernel
theorem d77_13 : decode (xcode 77) 13 = .ok (.iconst 1, 1) := by decide +kernel
theorem d77_14 : decode (xcode 77) 14 = .ok (.iand, 1) := by decide +kernel
theorem d77_15 : decode (xcode 77) 15 = .ok (.ifCond .eq 12, 3) := by decide +kernel
theorem d77_18 : decode (xcode 77) 18 = .ok (.iload_n 2, 1) := by decide +kernel
theorem d77_19 : decode (xcode 77) 19 = .ok (.aload_n 0, 1) := by decide +kernel
theorem d77_20 : decode (xcode 77) 20 = .ok (.getfield 18, 3) := by decide +kernel
theorem d77_23 : decode (xcode 77) 23 = .ok (.iload_n 3, 1) := by decide +kernel
theorem d77_24 : decode (xcode 77) 24 = .ok (.iaload, 1) := by decide +kernel
theorem d77_25 : decode (xcode 77) 25 = .ok (.iadd, 1) := by decide +kernel
theorem d77_26 : decode (xcode 77) 26 = .ok (.istore_n 2, 1) := by decide +kernel
theorem d77_27 : decode (xcode 77) 27 = .ok (.iinc 3 1, 3) := by decide +kernel
theorem d77_30 : decode (xcode 77) 30 = .ok (.goto (-26), 3) := by decide +kernel
theorem d77_33 : decode (xcode 77) 33 = .ok (.iload_n 2, 1) := by decide +kernel
theorem d77_34 : decode (xcode 77) 34 = .ok (.ireturn, 1) := by decide +kernel
noncomputable def f_Told_deepOf_b27 (i0 : Nat) (v1 : Int32) (v2 : Int32) (v3 : Int32) (h : xH) : Option ((Int32 × Int32) ⊕ Int32) :=
  xlet (v3 + (1 : Int32)) fun v3_3 =>
  some (Sum.inl (v2, v3_3))
set_option maxHeartbeats 4000000 in
set_option maxRecDepth 100000 in
theorem f_Told_deepOf_b27_ok {g : xG} {l : Launch} {d : Nat} {i0 : Nat} {v1 : Int32} {v2 : Int32} {v3 : Int32} {h : xH} {o : ((Int32 × Int32) ⊕ Int32)} {R : Option xV} (hD : 0 ≤ d) (hf : f_Told_deepOf_b27 i0 v1 v2 v3 h = some o) (K1 : ∀ (w2 : Int32) (w3 : Int32), o = Sum.inl (w2, w3) → xEv g l d 77 4 [(0, xr 8 (some i0)), (1, xi v1), (2, xi w2), (3, xi w3)] [] h R h) (K0 : ∀ (a : Int32), o = Sum.inr (a) → R = some (xi a)) : xEv g l d 77 27 [(0, xr 8 (some i0)), (1, xi v1), (2, xi v2), (3, xi v3)] [] h R h := by
  unfold f_Told_deepOf_b27 at hf
  obtain ⟨v3_3, ev3_3, hf⟩ := lk_let hf
  refine xe_iinc (v := v3_3) (b := 1) (ls2 := [(0, xr 8 (some i0)), (1, xi v1), (2, xi v2), (3, xi v3_3)]) d77_27 mx77 (by decide) rfl (by decide) ev3_3 rfl ?_
  refine xs_goto (tgt := 4) d77_30 (by decide) ?_
  exact K1 _ _ (Option.some.inj hf).symm
noncomputable def f_Told_deepOf_s4 (i0 : Nat) (v1 : Int32) (v2 : Int32) (v3 : Int32) (h : xH) : Option ((Int32 × Int32) ⊕ Int32) :=
  if (8 : Int32) ≤ v3 then (
  some (Sum.inr (v2))) else (
  if ((v1 >>> (v3 &&& 31)) &&& (1 : Int32)) = (0 : Int32) then (
  f_Told_deepOf_b27 i0 v1 v2 v3 h) else (
  if xib v3 8 then (
  xlet (v2 + (h.2.2.2.1 39 i0 (v3).toNatClampNeg)) fun v2_5 =>
  f_Told_deepOf_b27 i0 v1 v2_5 v3 h) else none))
set_option maxHeartbeats 4000000 in
set_option maxRecDepth 100000 in
theorem f_Told_deepOf_s4_ok {g : xG} {l : Launch} {d : Nat} {i0 : Nat} {v1 : Int32} {v2 : Int32} {v3 : Int32} {h : xH} {o : ((Int32 × Int32) ⊕ Int32)} {R : Option xV} (hD : 0 ≤ d) (hf : f_Told_deepOf_s4 i0 v1 v2 v3 h = some o) (K1 : ∀ (w2 : Int32) (w3 : Int32), o = Sum.inl (w2, w3) → xEv g l d 77 4 [(0, xr 8 (some i0)), (1, xi v1), (2, xi w2), (3, xi w3)] [] h R h) (K0 : ∀ (a : Int32), o = Sum.inr (a) → R = some (xi a)) : xEv g l d 77 4 [(0, xr 8 (some i0)), (1, xi v1), (2, xi v2), (3, xi v3)] [] h R h := by
  unfold f_Told_deepOf_s4 at hf
  refine xs_iload_n d77_4 rfl ?_
  refine xs_bipush (v := 8) d77_5 (by decide) ?_
  rcases lk_if hf with ⟨hc1, hf⟩ | ⟨hc1, hf⟩
  · refine xs_icmp_ge (tgt := 33) d77_7 (by decide) (fun _ => ?_) (fun hn => absurd hc1 hn)
    refine xs_iload_n d77_33 rfl ?_
    obtain eR := K0 _ (Option.some.inj hf).symm
    subst eR
    exact xs_iret d77_34 rt77
  · refine xs_icmp_ge (tgt := 33) d77_7 (by decide) (fun hp => absurd hp hc1) (fun _ => ?_)
    refine xs_iload_n d77_10 rfl ?_
    refine xs_iload_n d77_11 rfl ?_
    refine xs_ishr d77_12 ?_
    refine xs_iconst (v := 1) d77_13 (by decide) ?_
    refine xs_iand d77_14 ?_
    rcases lk_if hf with ⟨hc2, hf⟩ | ⟨hc2, hf⟩
    · refine xs_if_eq (tgt := 27) d77_15 (by decide) (fun _ => ?_) (fun hn => absurd hc2 hn)
      exact f_Told_deepOf_b27_ok hD hf K1 K0
    · refine xs_if_eq (tgt := 27) d77_15 (by decide) (fun hp => absurd hp hc2) (fun _ => ?_)
      refine xs_iload_n d77_18 rfl ?_
      refine xs_aload_n d77_19 rfl ?_
      refine xe_getc (j := i0) d77_20 ky77 fl43 fk8_7 (by omega) ?_
      refine xs_iload_n d77_23 rfl ?_
      obtain ⟨hin4, hf⟩ := lk_g hf
      refine xe_iald d77_24 (by decide) ak39 hin4 ?_
      refine xs_iadd d77_25 ?_
      obtain ⟨v2_5, ev2_5, hf⟩ := lk_let hf
      refine xe_istore_n (v := v2_5) (ls2 := [(0, xr 8 (some i0)), (1, xi v1), (2, xi v2_5), (3, xi v3)]) d77_26 mx77 (by decide) ev2_5 rfl ?_
      exact f_Told_deepOf_b27_ok hD hf K1 K0
noncomputable def f_Told_deepOf_l4 (i0 : Nat) (v1 : Int32) (v2 : Int32) (v3 : Int32) (h : xH) : Option Int32 :=
  whl (fun s => f_Told_deepOf_s4 i0 v1 s.1 s.2 h) (v2, v3)
theorem f_Told_deepOf_l4_ok {g : xG} {l : Launch} {d : Nat} {i0 : Nat} {v1 : Int32} {v2 : Int32} {v3 : Int32} {h : xH} {o : Int32} {R : Option xV} (hD : 0 ≤ d) (hf : f_Told_deepOf_l4 i0 v1 v2 v3 h = some o) (K0 : ∀ (a : Int32), o = a → R = some (xi a)) : xEv g l d 77 4 [(0, xr 8 (some i0)), (1, xi v1), (2, xi v2), (3, xi v3)] [] h R h := by
  obtain ⟨n, hn⟩ := whl_iff.mp hf
  clear hf
  induction n generalizing v2 v3 with
  | zero => cases hn
  | succ n ih =>
    obtain ⟨o2, hs, hn⟩ := lk_b (show (f_Told_deepOf_s4 i0 v1 v2 v3 h).bind (fun o => Sum.elim (itn _ n) some o) = some o from hn)
    exact f_Told_deepOf_s4_ok hD hs (fun u0 u1 e => ih (by rw [e] at hn; exact hn)) (fun u0 e => K0 u0 (by rw [e] at hn; exact (Option.some.inj hn).symm))
noncomputable def f_Told_deepOf_e (i0 : Nat) (v1 : Int32) (h : xH) : Option Int32 :=
  f_Told_deepOf_l4 i0 v1 (0 : Int32) (0 : Int32) h
set_option maxHeartbeats 4000000 in
set_option maxRecDepth 100000 in
theorem f_Told_deepOf_e_ok {g : xG} {l : Launch} {d : Nat} {i0 : Nat} {v1 : Int32} {h : xH} {o : Int32} {R : Option xV} (hD : 0 ≤ d) (hf : f_Told_deepOf_e i0 v1 h = some o) (K0 : ∀ (a : Int32), o = a → R = some (xi a)) : xEv g l d 77 0 [(0, xr 8 (some i0)), (1, xi v1)] [] h R h := by
  unfold f_Told_deepOf_e at hf
  refine xs_iconst (v := 0) d77_0 (by decide) ?_
  refine xe_istore_n (v := (0 : Int32)) (ls2 := [(0, xr 8 (some i0)), (1, xi v1), (2, xi (0 : Int32))]) d77_1 mx77 (by decide) rfl rfl ?_
  refine xs_iconst (v := 0) d77_2 (by decide) ?_
  refine xe_istore_n (v := (0 : Int32)) (ls2 := [(0, xr 8 (some i0)), (1, xi v1), (2, xi (0 : Int32)), (3, xi (0 : Int32))]) d77_3 mx77 (by decide) rfl rfl ?_
  exact f_Told_deepOf_l4_ok hD hf K0
noncomputable def f_Told_deepOf (i0 : Nat) (v1 : Int32) (h : xH) : Option Int32 := f_Told_deepOf_e i0 v1 h
theorem f_Told_deepOf_ok {g : xG} {l : Launch} {d : Nat} {i0 : Nat} {v1 : Int32} {h : xH} {r : Int32} (hD : 0 ≤ d) (hf : f_Told_deepOf i0 v1 h = some r) : xC g l d 77 [xr 8 (some i0), xi v1] h (some (xi r)) h :=
  xC_of2 (by decide) mx77 (Nat.le_of_ble_eq_true rfl) (f_Told_deepOf_e_ok hD hf (fun _ e => by rw [e]))
theorem d80_0 : decode (xcode 80) 0 = .ok (.aload_n 0, 1) := by decide +kernel
theorem d80_1 : decode (xcode 80) 1 = .ok (.getfield 28, 3) := by decide +kernel
theorem d80_4 : decode (xcode 80) 4 = .ok (.bipush 40, 2) := by decide +kernel
theorem d80_6 : decode (xcode 80) 6 = .ok (.if_icmp .ge 29, 3) := by decide +kernel
theorem d80_9 : decode (xcode 80) 9 = .ok (.iload_n 1, 1) := by decide +kernel
theorem d80_10 : decode (xcode 80) 10 = .ok (.bipush 12, 2) := by decide +kernel
theorem d80_12 : decode (xcode 80) 12 = .ok (.if_icmp .ne 7, 3) := by decide +kernel
theorem d80_15 : decode (xcode 80) 15 = .ok (.iconst 1, 1) := by decide +kernel
theorem d80_16 : decode (xcode 80) 16 = .ok (.goto 4, 3) := by decide +kernel
theorem d80_19 : decode (xcode 80) 19 = .ok (.iconst 0, 1) := by decide +kernel
theorem d80_20 : decode (xcode 80) 20 = .ok (.aload_n 0, 1) := by decide +kernel
theorem d80_21 : decode (xcode 80) 21 = .ok (.getfield 28, 3) := by decide +kernel
theorem d80_24 : decode (xcode 80) 24 = .ok (.ifCond .ne 7, 3) := by decide +kernel
theorem d80_27 : decode (xcode 80) 27 = .ok (.iconst 1, 1) := by decide +kernel
theorem d80_28 : decode (xcode 80) 28 = .ok (.goto 4, 3) := by decide +kernel
theorem d80_31 : decode (xcode 80) 31 = .ok (.iconst 0, 1) := by decide +kernel
theorem d80_32 : decode (xcode 80) 32 = .ok (.if_icmp .eq 5, 3) := by decide +kernel
theorem d80_35 : decode (xcode 80) 35 = .ok (.iconst 1, 1) := by decide +kernel
theorem d80_36 : decode (xcode 80) 36 = .ok (.ireturn, 1) := by decide +kernel
theorem d80_37 : decode (xcode 80) 37 = .ok (.iload_n 1, 1) := by decide +kernel
theorem d80_38 : decode (xcode 80) 38 = .ok (.ifCond .ne 15, 3) := by decide +kernel
theorem d80_41 : decode (xcode 80) 41 = .ok (.aload_n 0, 1) := by decide +kernel
theorem d80_42 : decode (xcode 80) 42 = .ok (.getfield 15, 3) := by decide +kernel
theorem d80_45 : decode (xcode 80) 45 = .ok (.getfield 83, 3) := by decide +kernel
theorem d80_48 : decode (xcode 80) 48 = .ok (.bipush 8, 2) := by decide +kernel
theorem d80_50 : decode (xcode 80) 50 = .ok (.if_icmp .ge 20, 3) := by decide +kernel
theorem d80_53 : decode (xcode 80) 53 = .ok (.iload_n 1, 1) := by decide +kernel
theorem d80_54 : decode (xcode 80) 54 = .ok (.bipush 14, 2) := by decide +kernel
theorem d80_56 : decode (xcode 80) 56 = .ok (.if_icmp .ne 18, 3) := by decide +kernel
theorem d80_59 : decode (xcode 80) 59 = .ok (.aload_n 0, 1) := by decide +kernel
theorem d80_60 : decode (xcode 80) 60 = .ok (.getfield 15, 3) := by decide +kernel
theorem d80_63 : decode (xcode 80) 63 = .ok (.getfield 86, 3) := by decide +kernel
theorem d80_66 : decode (xcode 80) 66 = .ok (.iconst 4, 1) := by decide +kernel
theorem d80_67 : decode (xcode 80) 67 = .ok (.if_icmp .lt 7, 3) := by decide +kernel
theorem d80_70 : decode (xcode 80) 70 = .ok (.iconst 1, 1) := by decide +kernel
theorem d80_71 : decode (xcode 80) 71 = .ok (.goto 4, 3) := by decide +kernel
theorem d80_74 : decode (xcode 80) 74 = .ok (.iconst 0, 1) := by decide +kernel
theorem d80_75 : decode (xcode 80) 75 = .ok (.ireturn, 1) := by decide +kernel
noncomputable def f_TrugReader_isTooMany_b53 (v1 : Int32) (h : xH) : Option Int32 :=
  if v1 = (14 : Int32) then (
  if (h.1 8 4 5) < (4 : Int32) then (
  some ((0 : Int32))) else (
  some ((1 : Int32)))) else (
  some ((0 : Int32)))
set_option maxHeartbeats 4000000 in
set_option maxRecDepth 100000 in
theorem f_TrugReader_isTooMany_b53_ok {g : xG} {l : Launch} {d : Nat} {v1 : Int32} {h : xH} {o : Int32} {R : Option xV} (hD : 0 ≤ d) (hf : f_TrugReader_isTooMany_b53 v1 h = some o) (K0 : ∀ (a : Int32), o = a → R = some (xi a)) : xEv g l d 80 53 [(0, xr 9 (some 0)), (1, xi v1)] [] h R h := by
  unfold f_TrugReader_isTooMany_b53 at hf
  refine xs_iload_n d80_53 rfl ?_
  refine xs_bipush (v := 14) d80_54 (by decide) ?_
  rcases lk_if hf with ⟨hc7, hf⟩ | ⟨hc7, hf⟩
  · refine xs_icmp_ne (tgt := 74) d80_56 (by decide) (fun _ => ?_) (fun hn => absurd hc7 hn)
    refine xs_aload_n d80_59 rfl ?_
    refine xe_getc (j := 5) d80_60 ky80 fl56 fk9_1 rfl ?_
    refine xe_geti d80_63 ky80 fl34 fk8_4 ?_
    refine xs_iconst (v := 4) d80_66 (by decide) ?_
    rcases lk_if hf with ⟨hc8, hf⟩ | ⟨hc8, hf⟩
    · refine xs_icmp_lt (tgt := 74) d80_67 (by decide) (fun _ => ?_) (fun hn => absurd hc8 hn)
      refine xs_iconst (v := 0) d80_74 (by decide) ?_
      obtain eR := K0 _ (Option.some.inj hf).symm
      subst eR
      exact xe_zret d80_75 (Or.inl rfl) rt80
    · refine xs_icmp_lt (tgt := 74) d80_67 (by decide) (fun hp => absurd hp hc8) (fun _ => ?_)
      refine xs_iconst (v := 1) d80_70 (by decide) ?_
      refine xs_goto (tgt := 75) d80_71 (by decide) ?_
      obtain eR := K0 _ (Option.some.inj hf).symm
      subst eR
      exact xe_zret d80_75 (Or.inr rfl) rt80
  · refine xs_icmp_ne (tgt := 74) d80_56 (by decide) (fun hp => absurd hp hc7) (fun _ => ?_)
    refine xs_iconst (v := 0) d80_74 (by decide) ?_
    obtain eR := K0 _ (Option.some.inj hf).symm
    subst eR
    exact xe_zret d80_75 (Or.inl rfl) rt80
noncomputable def f_TrugReader_isTooMany_b32 (v1 : Int32) (t0 : Int32) (t1 : Int32) (h : xH) : Option Int32 :=
  if t1 = t0 then (
  if v1 = (0 : Int32) then (
  if (8 : Int32) ≤ (h.1 8 3 5) then (
  some ((1 : Int32))) else (
  f_TrugReader_isTooMany_b53 v1 h)) else (
  f_TrugReader_isTooMany_b53 v1 h)) else (
  some ((1 : Int32)))
set_option maxHeartbeats 4000000 in
set_option maxRecDepth 100000 in
theorem f_TrugReader_isTooMany_b32_ok {g : xG} {l : Launch} {d : Nat} {v1 : Int32} {t0 : Int32} {t1 : Int32} {h : xH} {o : Int32} {R : Option xV} (hD : 0 ≤ d) (hf : f_TrugReader_isTooMany_b32 v1 t0 t1 h = some o) (K0 : ∀ (a : Int32), o = a → R = some (xi a)) : xEv g l d 80 32 [(0, xr 9 (some 0)), (1, xi v1)] [xi t0, xi t1] h R h := by
  unfold f_TrugReader_isTooMany_b32 at hf
  rcases lk_if hf with ⟨hc4, hf⟩ | ⟨hc4, hf⟩
  · refine xs_icmp_eq (tgt := 37) d80_32 (by decide) (fun _ => ?_) (fun hn => absurd hc4 hn)
    refine xs_iload_n d80_37 rfl ?_
    rcases lk_if hf with ⟨hc5, hf⟩ | ⟨hc5, hf⟩
    · refine xs_if_ne (tgt := 53) d80_38 (by decide) (fun _ => ?_) (fun hn => absurd hc5 hn)
      refine xs_aload_n d80_41 rfl ?_
      refine xe_getc (j := 5) d80_42 ky80 fl56 fk9_1 rfl ?_
      refine xe_geti d80_45 ky80 fl31 fk8_3 ?_
      refine xs_bipush (v := 8) d80_48 (by decide) ?_
      rcases lk_if hf with ⟨hc6, hf⟩ | ⟨hc6, hf⟩
      · refine xs_icmp_ge (tgt := 70) d80_50 (by decide) (fun _ => ?_) (fun hn => absurd hc6 hn)
        refine xs_iconst (v := 1) d80_70 (by decide) ?_
        refine xs_goto (tgt := 75) d80_71 (by decide) ?_
        obtain eR := K0 _ (Option.some.inj hf).symm
        subst eR
        exact xe_zret d80_75 (Or.inr rfl) rt80
      · refine xs_icmp_ge (tgt := 70) d80_50 (by decide) (fun hp => absurd hp hc6) (fun _ => ?_)
        exact f_TrugReader_isTooMany_b53_ok hD hf K0
    · refine xs_if_ne (tgt := 53) d80_38 (by decide) (fun hp => absurd hp hc5) (fun _ => ?_)
      exact f_TrugReader_isTooMany_b53_ok hD hf K0
  · refine xs_icmp_eq (tgt := 37) d80_32 (by decide) (fun hp => absurd hp hc4) (fun _ => ?_)
    refine xs_iconst (v := 1) d80_35 (by decide) ?_
    obtain eR := K0 _ (Option.some.inj hf).symm
    subst eR
    exact xe_zret d80_36 (Or.inr rfl) rt80
noncomputable def f_TrugReader_isTooMany_b20 (v1 : Int32) (t0 : Int32) (h : xH) : Option Int32 :=
  if (h.1 9 2 0) = (0 : Int32) then (
  f_TrugReader_isTooMany_b32 v1 (1 : Int32) t0 h) else (
  f_TrugReader_isTooMany_b32 v1 (0 : Int32) t0 h)
set_option maxHeartbeats 4000000 in
set_option maxRecDepth 100000 in
theorem f_TrugReader_isTooMany_b20_ok {g : xG} {l : Launch} {d : Nat} {v1 : Int32} {t0 : Int32} {h : xH} {o : Int32} {R : Option xV} (hD : 0 ≤ d) (hf : f_TrugReader_isTooMany_b20 v1 t0 h = some o) (K0 : ∀ (a : Int32), o = a → R = some (xi a)) : xEv g l d 80 20 [(0, xr 9 (some 0)), (1, xi v1)] [xi t0] h R h := by
  unfold f_TrugReader_isTooMany_b20 at hf
  refine xs_aload_n d80_20 rfl ?_
  refine xe_geti d80_21 ky80 fl57 fk9_2 ?_
  rcases lk_if hf with ⟨hc3, hf⟩ | ⟨hc3, hf⟩
  · refine xs_if_ne (tgt := 31) d80_24 (by decide) (fun _ => ?_) (fun hn => absurd hc3 hn)
    refine xs_iconst (v := 1) d80_27 (by decide) ?_
    refine xs_goto (tgt := 32) d80_28 (by decide) ?_
    exact f_TrugReader_isTooMany_b32_ok hD hf K0
  · refine xs_if_ne (tgt := 31) d80_24 (by decide) (fun hp => absurd hp hc3) (fun _ => ?_)
    refine xs_iconst (v := 0) d80_31 (by decide) ?_
    exact f_TrugReader_isTooMany_b32_ok hD hf K0
noncomputable def f_TrugReader_isTooMany_e (v1 : Int32) (h : xH) : Option Int32 :=
  if (40 : Int32) ≤ (h.1 9 2 0) then (
  some ((1 : Int32))) else (
  if v1 = (12 : Int32) then (
  f_TrugReader_isTooMany_b20 v1 (1 : Int32) h) else (
  f_TrugReader_isTooMany_b20 v1 (0 : Int32) h))
set_option maxHeartbeats 4000000 in
set_option maxRecDepth 100000 in
theorem f_TrugReader_isTooMany_e_ok {g : xG} {l : Launch} {d : Nat} {v1 : Int32} {h : xH} {o : Int32} {R : Option xV} (hD : 0 ≤ d) (hf : f_TrugReader_isTooMany_e v1 h = some o) (K0 : ∀ (a : Int32), o = a → R = some (xi a)) : xEv g l d 80 0 [(0, xr 9 (some 0)), (1, xi v1)] [] h R h := by
  unfold f_TrugReader_isTooMany_e at hf
  refine xs_aload_n d80_0 rfl ?_
  refine xe_geti d80_1 ky80 fl57 fk9_2 ?_
  refine xs_bipush (v := 40) d80_4 (by decide) ?_
  rcases lk_if hf with ⟨hc1, hf⟩ | ⟨hc1, hf⟩
  · refine xs_icmp_ge (tgt := 35) d80_6 (by decide) (fun _ => ?_) (fun hn => absurd hc1 hn)
    refine xs_iconst (v := 1) d80_35 (by decide) ?_
    obtain eR := K0 _ (Option.some.inj hf).symm
    subst eR
    exact xe_zret d80_36 (Or.inr rfl) rt80
  · refine xs_icmp_ge (tgt := 35) d80_6 (by decide) (fun hp => absurd hp hc1) (fun _ => ?_)
    refine xs_iload_n d80_9 rfl ?_
    refine xs_bipush (v := 12) d80_10 (by decide) ?_
    rcases lk_if hf with ⟨hc2, hf⟩ | ⟨hc2, hf⟩
    · refine xs_icmp_ne (tgt := 19) d80_12 (by decide) (fun _ => ?_) (fun hn => absurd hc2 hn)
      refine xs_iconst (v := 1) d80_15 (by decide) ?_
      refine xs_goto (tgt := 20) d80_16 (by decide) ?_
      exact f_TrugReader_isTooMany_b20_ok hD hf K0
    · refine xs_icmp_ne (tgt := 19) d80_12 (by decide) (fun hp => absurd hp hc2) (fun _ => ?_)
      refine xs_iconst (v := 0) d80_19 (by decide) ?_
      exact f_TrugReader_isTooMany_b20_ok hD hf K0
noncomputable def f_TrugReader_isTooMany (v1 : Int32) (h : xH) : Option Int32 := f_TrugReader_isTooMany_e v1 h
theorem f_TrugReader_isTooMany_ok {g : xG} {l : Launch} {d : Nat} {v1 : Int32} {h : xH} {r : Int32} (hD : 0 ≤ d) (hf : f_TrugReader_isTooMany v1 h = some r) : xC g l d 80 [xr 9 (some 0), xi v1] h (some (xi r)) h :=
  xC_of2 (by decide) mx80 (Nat.le_of_ble_eq_true rfl) (f_TrugReader_isTooMany_e_ok hD hf (fun _ e => by rw [e]))
theorem d81_0 : decode (xcode 81) 0 = .ok (.aload_n 0, 1) := by decide +kernel
theorem d81_1 : decode (xcode 81) 1 = .ok (.getfield 9, 3) := by decide +kernel
theorem d81_4 : decode (xcode 81) 4 = .ok (.getfield 47, 3) := by decide +kernel
theorem d81_7 : decode (xcode 81) 7 = .ok (.iconst 2, 1) := by decide +kernel
theorem d81_8 : decode (xcode 81) 8 = .ok (.if_icmp .eq 13, 3) := by decide +kernel
theorem d81_11 : decode (xcode 81) 11 = .ok (.aload_n 0, 1) := by decide +kernel
theorem d81_12 : decode (xcode 81) 12 = .ok (.getfield 9, 3) := by decide +kernel
theorem d81_15 : decode (xcode 81) 15 = .ok (.iconst 0, 1) := by decide +kernel
theorem d81_16 : decode (xcode 81) 16 = .ok (.invokevirtual 53, 3) := by decide +kernel
theorem d81_19 : decode (xcode 81) 19 = .ok (.iload_n 1, 1) := by decide +kernel
theorem d81_20 : decode (xcode 81) 20 = .ok (.ireturn, 1) := by decide +kernel
theorem d81_21 : decode (xcode 81) 21 = .ok (.aload_n 0, 1) := by decide +kernel
theorem d81_22 : decode (xcode 81) 22 = .ok (.getfield 9, 3) := by decide +kernel
theorem d81_25 : decode (xcode 81) 25 = .ok (.getfield 50, 3) := by decide +kernel
theorem d81_28 : decode (xcode 81) 28 = .ok (.istore_n 3, 1) := by decide +kernel
theorem d81_29 : decode (xcode 81) 29 = .ok (.iload_n 3, 1) := by decide +kernel
theorem d81_30 : decode (xcode 81) 30 = .ok (.iload_n 1, 1) := by decide +kernel
theorem d81_31 : decode (xcode 81) 31 = .ok (.if_icmp .lt 8, 3) := by decide +kernel
theorem d81_34 : decode (xcode 81) 34 = .ok (.iload_n 3, 1) := by decide +kernel
theorem d81_35 : decode (xcode 81) 35 = .ok (.iload_n 2, 1) := by decide +kernel
theorem d81_36 : decode (xcode 81) 36 = .ok (.if_icmp .le 13, 3) := by decide +kernel
theorem d81_39 : decode (xcode 81) 39 = .ok (.aload_n 0, 1) := by decide +kernel
theorem d81_40 : decode (xcode 81) 40 = .ok (.getfield 9, 3) := by decide +kernel
theorem d81_43 : decode (xcode 81) 43 = .ok (.iconst 1, 1) := by decide +kernel
theorem d81_44 : decode (xcode 81) 44 = .ok (.invokevirtual 53, 3) := by decide +kernel
theorem d81_47 : decode (xcode 81) 47 = .ok (.iload_n 1, 1) := by decide +kernel
theorem d81_48 : decode (xcode 81) 48 = .ok (.ireturn, 1) := by decide +kernel
theorem d81_49 : decode (xcode 81) 49 = .ok (.aload_n 0, 1) := by decide +kernel
theorem d81_50 : decode (xcode 81) 50 = .ok (.getfield 9, 3) := by decide +kernel
theorem d81_53 : decode (xcode 81) 53 = .ok (.invokevirtual 61, 3) := by decide +kernel
theorem d81_56 : decode (xcode 81) 56 = .ok (.iload_n 3, 1) := by decide +kernel
theorem d81_57 : decode (xcode 81) 57 = .ok (.ireturn, 1) := by decide +kernel
noncomputable def f_TrugReader_readNumber_b39 (v1 : Int32) (h : xH) : Option (Int32 × xH) :=
  (f_Tape_fail (1 : Int32) h).bind fun h6 =>
  some ((v1, h6))
set_option maxHeartbeats 4000000 in
set_option maxRecDepth 100000 in
theorem f_TrugReader_readNumber_b39_ok {g : xG} {l : Launch} {d : Nat} {v1 : Int32} {h : xH} {o : (Int32 × xH)} {R : Option xV} {H' : xH} (hD : 1 ≤ d) (hf : f_TrugReader_readNumber_b39 v1 h = some o) (K0 : ∀ (a : Int32) (h1 : xH), o = (a, h1) → R = some (xi a) ∧ H' = h1) : xEv g l d 81 39 [(0, xr 9 (some 0)), (1, xi v1)] [] h R H' := by
  unfold f_TrugReader_readNumber_b39 at hf
  refine xs_aload_n d81_39 rfl ?_
  refine xe_getc (j := 0) d81_40 ky81 fl55 fk9_0 rfl ?_
  refine xs_iconst (v := 1) d81_43 (by decide) ?_
  obtain ⟨h6, hc5, hf⟩ := lk_b hf
  refine xe_callv0 (as := [xi (1 : Int32)]) (st := []) (h2 := h6) (d2 := d - 1) d81_44 ky81 ml19 st70 (by decide) cn70 rfl na70 (Nat.le_of_ble_eq_true rfl) (by omega) (f_Tape_fail_ok (by omega) hc5) ?_
  refine xs_iload_n d81_47 rfl ?_
  obtain ⟨eR, eH⟩ := K0 _ _ (Option.some.inj hf).symm
  subst eR; subst eH
  exact xs_iret d81_48 rt81
noncomputable def f_TrugReader_readNumber_e (v1 : Int32) (v2 : Int32) (h : xH) : Option (Int32 × xH) :=
  if (h.1 7 7 0) = (2 : Int32) then (
  xlet (h.1 7 8 0) fun v3_2 =>
  if v3_2 < v1 then (
  f_TrugReader_readNumber_b39 v1 h) else (
  if v3_2 ≤ v2 then (
  (f_Tape_goOn h).bind fun h10 =>
  some ((v3_2, h10))) else (
  f_TrugReader_readNumber_b39 v1 h))) else (
  (f_Tape_fail (0 : Int32) h).bind fun h13 =>
  some ((v1, h13)))
set_option maxHeartbeats 4000000 in
set_option maxRecDepth 100000 in
theorem f_TrugReader_readNumber_e_ok {g : xG} {l : Launch} {d : Nat} {v1 : Int32} {v2 : Int32} {h : xH} {o : (Int32 × xH)} {R : Option xV} {H' : xH} (hD : 1 ≤ d) (hf : f_TrugReader_readNumber_e v1 v2 h = some o) (K0 : ∀ (a : Int32) (h1 : xH), o = (a, h1) → R = some (xi a) ∧ H' = h1) : xEv g l d 81 0 [(0, xr 9 (some 0)), (1, xi v1), (2, xi v2)] [] h R H' := by
  unfold f_TrugReader_readNumber_e at hf
  refine xs_aload_n d81_0 rfl ?_
  refine xe_getc (j := 0) d81_1 ky81 fl55 fk9_0 rfl ?_
  refine xe_geti d81_4 ky81 fl8 fk7_7 ?_
  refine xs_iconst (v := 2) d81_7 (by decide) ?_
  rcases lk_if hf with ⟨hc1, hf⟩ | ⟨hc1, hf⟩
  · refine xs_icmp_eq (tgt := 21) d81_8 (by decide) (fun _ => ?_) (fun hn => absurd hc1 hn)
    refine xs_aload_n d81_21 rfl ?_
    refine xe_getc (j := 0) d81_22 ky81 fl55 fk9_0 rfl ?_
    refine xe_geti d81_25 ky81 fl11 fk7_8 ?_
    obtain ⟨v3_2, ev3_2, hf⟩ := lk_let hf
    refine xe_istore_n (v := v3_2) (ls2 := [(0, xr 9 (some 0)), (1, xi v1), (2, xi v2), (3, xi v3_2)]) d81_28 mx81 (by decide) ev3_2 rfl ?_
    refine xs_iload_n d81_29 rfl ?_
    refine xs_iload_n d81_30 rfl ?_
    rcases lk_if hf with ⟨hc3, hf⟩ | ⟨hc3, hf⟩
    · refine xs_icmp_lt (tgt := 39) d81_31 (by decide) (fun _ => ?_) (fun hn => absurd hc3 hn)
      refine xs_pick [0, 1] rfl ?_
      exact f_TrugReader_readNumber_b39_ok hD hf K0
    · refine xs_icmp_lt (tgt := 39) d81_31 (by decide) (fun hp => absurd hp hc3) (fun _ => ?_)
      refine xs_iload_n d81_34 rfl ?_
      refine xs_iload_n d81_35 rfl ?_
      rcases lk_if hf with ⟨hc7, hf⟩ | ⟨hc7, hf⟩
      · refine xs_icmp_le (tgt := 49) d81_36 (by decide) (fun _ => ?_) (fun hn => absurd hc7 hn)
        refine xs_aload_n d81_49 rfl ?_
        refine xe_getc (j := 0) d81_50 ky81 fl55 fk9_0 rfl ?_
        obtain ⟨h10, hc9, hf⟩ := lk_b hf
        refine xe_callv0 (as := []) (st := []) (h2 := h10) (d2 := d - 1) d81_53 ky81 ml21 st68 (by decide) cn68 rfl na68 (Nat.le_of_ble_eq_true rfl) (by omega) (f_Tape_goOn_ok (by omega) hc9) ?_
        refine xs_iload_n d81_56 rfl ?_
        obtain ⟨eR, eH⟩ := K0 _ _ (Option.some.inj hf).symm
        subst eR; subst eH
        exact xs_iret d81_57 rt81
      · refine xs_icmp_le (tgt := 49) d81_36 (by decide) (fun hp => absurd hp hc7) (fun _ => ?_)
        refine xs_pick [0, 1] rfl ?_
        exact f_TrugReader_readNumber_b39_ok hD hf K0
  · refine xs_icmp_eq (tgt := 21) d81_8 (by decide) (fun hp => absurd hp hc1) (fun _ => ?_)
    refine xs_aload_n d81_11 rfl ?_
    refine xe_getc (j := 0) d81_12 ky81 fl55 fk9_0 rfl ?_
    refine xs_iconst (v := 0) d81_15 (by decide) ?_
    obtain ⟨h13, hc12, hf⟩ := lk_b hf
    refine xe_callv0 (as := [xi (0 : Int32)]) (st := []) (h2 := h13) (d2 := d - 1) d81_16 ky81 ml19 st70 (by decide) cn70 rfl na70 (Nat.le_of_ble_eq_true rfl) (by omega) (f_Tape_fail_ok (by omega) hc12) ?_
    refine xs_iload_n d81_19 rfl ?_
    obtain ⟨eR, eH⟩ := K0 _ _ (Option.some.inj hf).symm
    subst eR; subst eH
    exact xs_iret d81_20 rt81
noncomputable def f_TrugReader_readNumber (v1 : Int32) (v2 : Int32) (h : xH) : Option (Int32 × xH) := f_TrugReader_readNumber_e v1 v2 h
theorem f_TrugReader_readNumber_ok {g : xG} {l : Launch} {d : Nat} {v1 : Int32} {v2 : Int32} {h : xH} {r : Int32} {h1 : xH} (hD : 1 ≤ d) (hf : f_TrugReader_readNumber v1 v2 h = some (r, h1)) : xC g l d 81 [xr 9 (some 0), xi v1, xi v2] h (some (xi r)) h1 :=
  xC_of2 (by decide) mx81 (Nat.le_of_ble_eq_true rfl) (f_TrugReader_readNumber_e_ok hD hf (fun _ _ e => by cases e; exact ⟨rfl, rfl⟩))
theorem d82_0 : decode (xcode 82) 0 = .ok (.aload_n 0, 1) := by decide +kernel
theorem d82_1 : decode (xcode 82) 1 = .ok (.iconst 1, 1) := by decide +kernel
theorem d82_2 : decode (xcode 82) 2 = .ok (.bipush 20, 2) := by decide +kernel
theorem d82_4 : decode (xcode 82) 4 = .ok (.invokevirtual 64, 3) := by decide +kernel
theorem d82_7 : decode (xcode 82) 7 = .ok (.istore_n 1, 1) := by decide +kernel
theorem d82_8 : decode (xcode 82) 8 = .ok (.aload_n 0, 1) := by decide +kernel
theorem d82_9 : decode (xcode 82) 9 = .ok (.iconst 1, 1) := by decide +kernel
theorem d82_10 : decode (xcode 82) 10 = .ok (.bipush 40, 2) := by decide +kernel
theorem d82_12 : decode (xcode 82) 12 = .ok (.invokevirtual 64, 3) := by decide +kernel
theorem d82_15 : decode (xcode 82) 15 = .ok (.istore_n 2, 1) := by decide +kernel
theorem d82_16 : decode (xcode 82) 16 = .ok (.aload_n 0, 1) := by decide +kernel
theorem d82_17 : decode (xcode 82) 17 = .ok (.iconst 0, 1) := by decide +kernel
theorem d82_18 : decode (xcode 82) 18 = .ok (.bipush 30, 2) := by decide +kernel
theorem d82_20 : decode (xcode 82) 20 = .ok (.invokevirtual 64, 3) := by decide +kernel
theorem d82_23 : decode (xcode 82) 23 = .ok (.istore_n 3, 1) := by decide +kernel
theorem d82_24 : decode (xcode 82) 24 = .ok (.aload_n 0, 1) := by decide +kernel
theorem d82_25 : decode (xcode 82) 25 = .ok (.getfield 9, 3) := by decide +kernel
theorem d82_28 : decode (xcode 82) 28 = .ok (.invokevirtual 89, 3) := by decide +kernel
theorem d82_31 : decode (xcode 82) 31 = .ok (.ifCond .eq 86, 3) := by decide +kernel
theorem d82_34 : decode (xcode 82) 34 = .ok (.aload_n 0, 1) := by decide +kernel
theorem d82_35 : decode (xcode 82) 35 = .ok (.getfield 15, 3) := by decide +kernel
theorem d82_38 : decode (xcode 82) 38 = .ok (.getfield 83, 3) := by decide +kernel
theorem d82_41 : decode (xcode 82) 41 = .ok (.ifCond .lt 76, 3) := by decide +kernel
theorem d82_44 : decode (xcode 82) 44 = .ok (.aload_n 0, 1) := by decide +kernel
theorem d82_45 : decode (xcode 82) 45 = .ok (.getfield 15, 3) := by decide +kernel
theorem d82_48 : decode (xcode 82) 48 = .ok (.getfield 83, 3) := by decide +kernel
theorem d82_51 : decode (xcode 82) 51 = .ok (.bipush 8, 2) := by decide +kernel
theorem d82_53 : decode (xcode 82) 53 = .ok (.if_icmp .ge 64, 3) := by decide +kernel
theorem d82_56 : decode (xcode 82) 56 = .ok (.aload_n 0, 1) := by decide +kernel
theorem d82_57 : decode (xcode 82) 57 = .ok (.getfield 15, 3) := by decide +kernel
theorem d82_60 : decode (xcode 82) 60 = .ok (.getfield 92, 3) := by decide +kernel
theorem d82_63 : decode (xcode 82) 63 = .ok (.aload_n 0, 1) := by decide +kernel
theorem d82_64 : decode (xcode 82) 64 = .ok (.getfield 15, 3) := by decide +kernel
theorem d82_67 : decode (xcode 82) 67 = .ok (.getfield 83, 3) := by decide +kernel
theorem d82_70 : decode (xcode 82) 70 = .ok (.iload_n 1, 1) := by decide +kernel
theorem d82_71 : decode (xcode 82) 71 = .ok (.iastore, 1) := by decide +kernel
theorem d82_72 : decode (xcode 82) 72 = .ok (.aload_n 0, 1) := by decide +kernel
theorem d82_73 : decode (xcode 82) 73 = .ok (.getfield 15, 3) := by decide +kernel
theorem d82_76 : decode (xcode 82) 76 = .ok (.getfield 96, 3) := by decide +kernel
theorem d82_79 : decode (xcode 82) 79 = .ok (.aload_n 0, 1) := by decide +kernel
theorem d82_80 : decode (xcode 82) 80 = .ok (.getfield 15, 3) := by decide +kernel
theorem d82_83 : decode (xcode 82) 83 = .ok (.getfield 83, 3) := by decide +kernel
theorem d82_86 : decode (xcode 82) 86 = .ok (.iload_n 2, 1) := by decide +kernel
theorem d82_87 : decode (xcode 82) 87 = .ok (.iastore, 1) := by decide +kernel
theorem d82_88 : decode (xcode 82) 88 = .ok (.aload_n 0, 1) := by decide +kernel
theorem d82_89 : decode (xcode 82) 89 = .ok (.getfield 15, 3) := by decide +kernel
theorem d82_92 : decode (xcode 82) 92 = .ok (.getfield 99, 3) := by decide +kernel
theorem d82_95 : decode (xcode 82) 95 = .ok (.aload_n 0, 1) := by decide +kernel
theorem d82_96 : decode (xcode 82) 96 = .ok (.getfield 15, 3) := by decide +kernel
theorem d82_99 : decode (xcode 82) 99 = .ok (.getfield 83, 3) := by decide +kernel
theorem d82_102 : decode (xcode 82) 102 = .ok (.iload_n 3, 1) := by decide +kernel
theorem d82_103 : decode (xcode 82) 103 = .ok (.iastore, 1) := by decide +kernel
theorem d82_104 : decode (xcode 82) 104 = .ok (.aload_n 0, 1) := by decide +kernel
theorem d82_105 : decode (xcode 82) 105 = .ok (.getfield 15, 3) := by decide +kernel
theorem d82_108 : decode (xcode 82) 108 = .ok (.dup, 1) := by decide +kernel
theorem d82_109 : decode (xcode 82) 109 = .ok (.getfield 83, 3) := by decide +kernel
theorem d82_112 : decode (xcode 82) 112 = .ok (.iconst 1, 1) := by decide +kernel
theorem d82_113 : decode (xcode 82) 113 = .ok (.iadd, 1) := by decide +kernel
theorem d82_114 : decode (xcode 82) 114 = .ok (.putfield 83, 3) := by decide +kernel
theorem d82_117 : decode (xcode 82) 117 = .ok (.return_, 1) := by decide +kernel
noncomputable def f_TrugReader_readSorrow_e (h : xH) : Option xH :=
  (f_TrugReader_readNumber (1 : Int32) (20 : Int32) h).bind fun q3 =>
  (f_TrugReader_readNumber (1 : Int32) (40 : Int32) q3.2).bind fun q6 =>
  (f_TrugReader_readNumber (0 : Int32) (30 : Int32) q6.2).bind fun q9 =>
  (f_Tape_isWell q9.2).bind fun r10 =>
  if r10 = (0 : Int32) then (
  some (q9.2)) else (
  if (q9.2.1 8 3 5) < (0 : Int32) then (
  some (q9.2)) else (
  if (8 : Int32) ≤ (q9.2.1 8 3 5) then (
  some (q9.2)) else (
  if xib (q9.2.1 8 3 5) 8 then (
  xlet (xsA q9.2 37 5 (upd (q9.2.2.2.2.1 37 5) (q9.2.1 8 3 5).toNatClampNeg q3.1)) fun h16 =>
  if xib (h16.1 8 3 5) 8 then (
  xlet (xsA h16 38 5 (upd (h16.2.2.2.1 38 5) (h16.1 8 3 5).toNatClampNeg q6.1)) fun h18 =>
  if xib (h18.1 8 3 5) 8 then (
  xlet (xsA h18 39 5 (upd (h18.2.2.2.1 39 5) (h18.1 8 3 5).toNatClampNeg q9.1)) fun h20 =>
  xlet (xsI h20 8 3 5 ((h20.1 8 3 5) + (1 : Int32))) fun h21 =>
  some (h21)) else none) else none) else none)))
set_option maxHeartbeats 4000000 in
set_option maxRecDepth 100000 in
theorem f_TrugReader_readSorrow_e_ok {g : xG} {l : Launch} {d : Nat} {h : xH} {o : xH} {R : Option xV} {H' : xH} (hD : 2 ≤ d) (hf : f_TrugReader_readSorrow_e h = some o) (K0 : ∀ (h1 : xH), o = h1 → R = none ∧ H' = h1) : xEv g l d 82 0 [(0, xr 9 (some 0))] [] h R H' := by
  unfold f_TrugReader_readSorrow_e at hf
  refine xs_aload_n d82_0 rfl ?_
  refine xs_iconst (v := 1) d82_1 (by decide) ?_
  refine xs_bipush (v := 20) d82_2 (by decide) ?_
  obtain ⟨q3, hc2, hf⟩ := lk_b hf
  refine xe_callv1 (as := [xi (1 : Int32), xi (20 : Int32)]) (st := []) (h2 := q3.2) (d2 := d - 1) d82_4 ky82 ml22 st81 (by decide) cn81 rfl na81 (Nat.le_of_ble_eq_true rfl) (by omega) (f_TrugReader_readNumber_ok (by omega) hc2) ?_
  refine xe_istore_n (v := q3.1) (ls2 := [(0, xr 9 (some 0)), (1, xi q3.1)]) d82_7 mx82 (by decide) rfl rfl ?_
  refine xs_aload_n d82_8 rfl ?_
  refine xs_iconst (v := 1) d82_9 (by decide) ?_
  refine xs_bipush (v := 40) d82_10 (by decide) ?_
  obtain ⟨q6, hc5, hf⟩ := lk_b hf
  refine xe_callv1 (as := [xi (1 : Int32), xi (40 : Int32)]) (st := []) (h2 := q6.2) (d2 := d - 1) d82_12 ky82 ml22 st81 (by decide) cn81 rfl na81 (Nat.le_of_ble_eq_true rfl) (by omega) (f_TrugReader_readNumber_ok (by omega) hc5) ?_
  refine xe_istore_n (v := q6.1) (ls2 := [(0, xr 9 (some 0)), (1, xi q3.1), (2, xi q6.1)]) d82_15 mx82 (by decide) rfl rfl ?_
  refine xs_aload_n d82_16 rfl ?_
  refine xs_iconst (v := 0) d82_17 (by decide) ?_
  refine xs_bipush (v := 30) d82_18 (by decide) ?_
  obtain ⟨q9, hc8, hf⟩ := lk_b hf
  refine xe_callv1 (as := [xi (0 : Int32), xi (30 : Int32)]) (st := []) (h2 := q9.2) (d2 := d - 1) d82_20 ky82 ml22 st81 (by decide) cn81 rfl na81 (Nat.le_of_ble_eq_true rfl) (by omega) (f_TrugReader_readNumber_ok (by omega) hc8) ?_
  refine xe_istore_n (v := q9.1) (ls2 := [(0, xr 9 (some 0)), (1, xi q3.1), (2, xi q6.1), (3, xi q9.1)]) d82_23 mx82 (by decide) rfl rfl ?_
  refine xs_aload_n d82_24 rfl ?_
  refine xe_getc (j := 0) d82_25 ky82 fl55 fk9_0 rfl ?_
  obtain ⟨r10, hc11, hf⟩ := lk_b hf
  refine xe_callv1 (as := []) (st := []) (h2 := q9.2) (d2 := d - 1) d82_28 ky82 ml24 st69 (by decide) cn69 rfl na69 (Nat.le_of_ble_eq_true rfl) (by omega) (f_Tape_isWell_ok (by omega) hc11) ?_
  rcases lk_if hf with ⟨hc12, hf⟩ | ⟨hc12, hf⟩
  · refine xs_if_eq (tgt := 117) d82_31 (by decide) (fun _ => ?_) (fun hn => absurd hc12 hn)
    obtain ⟨eR, eH⟩ := K0 _ (Option.some.inj hf).symm
    subst eR; subst eH
    exact xs_vret d82_117 rt82
  · refine xs_if_eq (tgt := 117) d82_31 (by decide) (fun hp => absurd hp hc12) (fun _ => ?_)
    refine xs_aload_n d82_34 rfl ?_
    refine xe_getc (j := 5) d82_35 ky82 fl56 fk9_1 rfl ?_
    refine xe_geti d82_38 ky82 fl31 fk8_3 ?_
    rcases lk_if hf with ⟨hc13, hf⟩ | ⟨hc13, hf⟩
    · refine xs_if_lt (tgt := 117) d82_41 (by decide) (fun _ => ?_) (fun hn => absurd hc13 hn)
      obtain ⟨eR, eH⟩ := K0 _ (Option.some.inj hf).symm
      subst eR; subst eH
      exact xs_vret d82_117 rt82
    · refine xs_if_lt (tgt := 117) d82_41 (by decide) (fun hp => absurd hp hc13) (fun _ => ?_)
      refine xs_aload_n d82_44 rfl ?_
      refine xe_getc (j := 5) d82_45 ky82 fl56 fk9_1 rfl ?_
      refine xe_geti d82_48 ky82 fl31 fk8_3 ?_
      refine xs_bipush (v := 8) d82_51 (by decide) ?_
      rcases lk_if hf with ⟨hc14, hf⟩ | ⟨hc14, hf⟩
      · refine xs_icmp_ge (tgt := 117) d82_53 (by decide) (fun _ => ?_) (fun hn => absurd hc14 hn)
        obtain ⟨eR, eH⟩ := K0 _ (Option.some.inj hf).symm
        subst eR; subst eH
        exact xs_vret d82_117 rt82
      · refine xs_icmp_ge (tgt := 117) d82_53 (by decide) (fun hp => absurd hp hc14) (fun _ => ?_)
        refine xs_aload_n d82_56 rfl ?_
        refine xe_getc (j := 5) d82_57 ky82 fl56 fk9_1 rfl ?_
        refine xe_getc (j := 5) d82_60 ky82 fl39 fk8_5 rfl ?_
        refine xs_aload_n d82_63 rfl ?_
        refine xe_getc (j := 5) d82_64 ky82 fl56 fk9_1 rfl ?_
        refine xe_geti d82_67 ky82 fl31 fk8_3 ?_
        refine xs_iload_n d82_70 rfl ?_
        obtain ⟨hin15, hf⟩ := lk_g hf
        obtain ⟨h16, eh16, hf⟩ := lk_let hf
        refine xe_iast d82_71 (by decide) ak37 hin15  eh16 ?_
        refine xs_aload_n d82_72 rfl ?_
        refine xe_getc (j := 5) d82_73 ky82 fl56 fk9_1 rfl ?_
        refine xe_getc (j := 5) d82_76 ky82 fl42 fk8_6 rfl ?_
        refine xs_aload_n d82_79 rfl ?_
        refine xe_getc (j := 5) d82_80 ky82 fl56 fk9_1 rfl ?_
        refine xe_geti d82_83 ky82 fl31 fk8_3 ?_
        refine xs_iload_n d82_86 rfl ?_
        obtain ⟨hin17, hf⟩ := lk_g hf
        obtain ⟨h18, eh18, hf⟩ := lk_let hf
        refine xe_iast d82_87 (by decide) ak38 hin17  eh18 ?_
        refine xs_aload_n d82_88 rfl ?_
        refine xe_getc (j := 5) d82_89 ky82 fl56 fk9_1 rfl ?_
        refine xe_getc (j := 5) d82_92 ky82 fl45 fk8_7 rfl ?_
        refine xs_aload_n d82_95 rfl ?_
        refine xe_getc (j := 5) d82_96 ky82 fl56 fk9_1 rfl ?_
        refine xe_geti d82_99 ky82 fl31 fk8_3 ?_
        refine xs_iload_n d82_102 rfl ?_
        obtain ⟨hin19, hf⟩ := lk_g hf
        obtain ⟨h20, eh20, hf⟩ := lk_let hf
        refine xe_iast d82_103 (by decide) ak39 hin19  eh20 ?_
        refine xs_aload_n d82_104 rfl ?_
        refine xe_getc (j := 5) d82_105 ky82 fl56 fk9_1 rfl ?_
        refine xs_dup d82_108 rfl ?_
        refine xe_geti d82_109 ky82 fl31 fk8_3 ?_
        refine xs_iconst (v := 1) d82_112 (by decide) ?_
        refine xs_iadd d82_113 ?_
        obtain ⟨h21, eh21, hf⟩ := lk_let hf
        refine xe_puti d82_114 ky82 fl31 fk8_3 ft8_3 eh21 ?_
        obtain ⟨eR, eH⟩ := K0 _ (Option.some.inj hf).symm
        subst eR; subst eH
        exact xs_vret d82_117 rt82
noncomputable def f_TrugReader_readSorrow (h : xH) : Option xH := f_TrugReader_readSorrow_e h
theorem f_TrugReader_readSorrow_ok {g : xG} {l : Launch} {d : Nat} {h : xH} {h1 : xH} (hD : 2 ≤ d) (hf : f_TrugReader_readSorrow h = some h1) : xC g l d 82 [xr 9 (some 0)] h none h1 :=
  xC_of2 (by decide) mx82 (Nat.le_of_ble_eq_true rfl) (f_TrugReader_readSorrow_e_ok hD hf (fun _ e => ⟨rfl, e⟩))
theorem d83_0 : decode (xcode 83) 0 = .ok (.aload_n 0, 1) := by decide +kernel
theorem d83_1 : decode (xcode 83) 1 = .ok (.iconst 0, 1) := by decide +kernel
theorem d83_2 : decode (xcode 83) 2 = .ok (.aload_n 0, 1) := by decide +kernel
theorem d83_3 : decode (xcode 83) 3 = .ok (.getfield 15, 3) := by decide +kernel
theorem d83_6 : decode (xcode 83) 6 = .ok (.getfield 83, 3) := by decide +kernel
theorem d83_9 : decode (xcode 83) 9 = .ok (.iconst 1, 1) := by decide +kernel
theorem d83_10 : decode (xcode 83) 10 = .ok (.isub, 1) := by decide +kernel
theorem d83_11 : decode (xcode 83) 11 = .ok (.invokevirtual 64, 3) := by decide +kernel
theorem d83_14 : decode (xcode 83) 14 = .ok (.istore_n 1, 1) := by decide +kernel
theorem d83_15 : decode (xcode 83) 15 = .ok (.aload_n 0, 1) := by decide +kernel
theorem d83_16 : decode (xcode 83) 16 = .ok (.getfield 9, 3) := by decide +kernel
theorem d83_19 : decode (xcode 83) 19 = .ok (.getfield 47, 3) := by decide +kernel
theorem d83_22 : decode (xcode 83) 22 = .ok (.iconst 2, 1) := by decide +kernel
theorem d83_23 : decode (xcode 83) 23 = .ok (.if_icmp .ne 22, 3) := by decide +kernel
theorem d83_26 : decode (xcode 83) 26 = .ok (.aload_n 0, 1) := by decide +kernel
theorem d83_27 : decode (xcode 83) 27 = .ok (.getfield 9, 3) := by decide +kernel
theorem d83_30 : decode (xcode 83) 30 = .ok (.getfield 50, 3) := by decide +kernel
theorem d83_33 : decode (xcode 83) 33 = .ok (.iload_n 1, 1) := by decide +kernel
theorem d83_34 : decode (xcode 83) 34 = .ok (.if_icmp .ne 11, 3) := by decide +kernel
theorem d83_37 : decode (xcode 83) 37 = .ok (.aload_n 0, 1) := by decide +kernel
theorem d83_38 : decode (xcode 83) 38 = .ok (.getfield 9, 3) := by decide +kernel
theorem d83_41 : decode (xcode 83) 41 = .ok (.iconst 1, 1) := by decide +kernel
theorem d83_42 : decode (xcode 83) 42 = .ok (.invokevirtual 53, 3) := by decide +kernel
theorem d83_45 : decode (xcode 83) 45 = .ok (.aload_n 0, 1) := by decide +kernel
theorem d83_46 : decode (xcode 83) 46 = .ok (.iconst 0, 1) := by decide +kernel
theorem d83_47 : decode (xcode 83) 47 = .ok (.aload_n 0, 1) := by decide +kernel
theorem d83_48 : decode (xcode 83) 48 = .ok (.getfield 15, 3) := by decide +kernel
theorem d83_51 : decode (xcode 83) 51 = .ok (.getfield 83, 3) := by decide +kernel
theorem d83_54 : decode (xcode 83) 54 = .ok (.iconst 1, 1) := by decide +kernel
theorem d83_55 : decode (xcode 83) 55 = .ok (.isub, 1) := by decide +kernel
theorem d83_56 : decode (xcode 83) 56 = .ok (.invokevirtual 64, 3) := by decide +kernel
theorem d83_59 : decode (xcode 83) 59 = .ok (.istore_n 2, 1) := by decide +kernel
theorem d83_60 : decode (xcode 83) 60 = .ok (.aload_n 0, 1) := by decide +kernel
theorem d83_61 : decode (xcode 83) 61 = .ok (.getfield 9, 3) := by decide +kernel
theorem d83_64 : decode (xcode 83) 64 = .ok (.invokevirtual 89, 3) := by decide +kernel
theorem d83_67 : decode (xcode 83) 67 = .ok (.ifCond .eq 29, 3) := by decide +kernel
theorem d83_70 : decode (xcode 83) 70 = .ok (.aload_n 0, 1) := by decide +kernel
theorem d83_71 : decode (xcode 83) 71 = .ok (.getfield 15, 3) := by decide +kernel
theorem d83_74 : decode (xcode 83) 74 = .ok (.iload_n 1, 1) := by decide +kernel
theorem d83_75 : decode (xcode 83) 75 = .ok (.invokevirtual 102, 3) := by decide +kernel
theorem d83_78 : decode (xcode 83) 78 = .ok (.ifCond .eq 18, 3) := by decide +kernel
theorem d83_81 : decode (xcode 83) 81 = .ok (.aload_n 0, 1) := by decide +kernel
theorem d83_82 : decode (xcode 83) 82 = .ok (.getfield 15, 3) := by decide +kernel
theorem d83_85 : decode (xcode 83) 85 = .ok (.getfield 105, 3) := by decide +kernel
theorem d83_88 : decode (xcode 83) 88 = .ok (.iload_n 1, 1) := by decide +kernel
theorem d83_89 : decode (xcode 83) 89 = .ok (.dup2, 1) := by decide +kernel
theorem d83_90 : decode (xcode 83) 90 = .ok (.iaload, 1) := by decide +kernel
theorem d83_91 : decode (xcode 83) 91 = .ok (.iconst 1, 1) := by decide +kernel
theorem d83_92 : decode (xcode 83) 92 = .ok (.iload_n 2, 1) := by decide +kernel
theorem d83_93 : decode (xcode 83) 93 = .ok (.ishl, 1) := by decide +kernel
theorem d83_94 : decode (xcode 83) 94 = .ok (.ior, 1) := by decide +kernel
theorem d83_95 : decode (xcode 83) 95 = .ok (.iastore, 1) := by decide +kernel
theorem d83_96 : decode (xcode 83) 96 = .ok (.return_, 1) := by decide +kernel
noncomputable def f_TrugReader_readUnder_b45 (v1 : Int32) (h : xH) : Option xH :=
  (f_TrugReader_readNumber (0 : Int32) ((h.1 8 3 5) - (1 : Int32)) h).bind fun q11 =>
  (f_Tape_isWell q11.2).bind fun r12 =>
  if r12 = (0 : Int32) then (
  some (q11.2)) else (
  (f_Told_hasSorrow 5 v1 q11.2).bind fun r15 =>
  if r15 = (0 : Int32) then (
  some (q11.2)) else (
  if xib v1 8 then (
  if xib v1 8 then (
  xlet (xsA q11.2 40 5 (upd (q11.2.2.2.2.1 40 5) (v1).toNatClampNeg ((q11.2.2.2.2.1 40 5 (v1).toNatClampNeg) ||| ((1 : Int32) <<< (q11.1 &&& 31))))) fun h20 =>
  some (h20)) else none) else none))
set_option maxHeartbeats 4000000 in
set_option maxRecDepth 100000 in
theorem f_TrugReader_readUnder_b45_ok {g : xG} {l : Launch} {d : Nat} {v1 : Int32} {h : xH} {o : xH} {R : Option xV} {H' : xH} (hD : 2 ≤ d) (hf : f_TrugReader_readUnder_b45 v1 h = some o) (K0 : ∀ (h1 : xH), o = h1 → R = none ∧ H' = h1) : xEv g l d 83 45 [(0, xr 9 (some 0)), (1, xi v1)] [] h R H' := by
  unfold f_TrugReader_readUnder_b45 at hf
  refine xs_aload_n d83_45 rfl ?_
  refine xs_iconst (v := 0) d83_46 (by decide) ?_
  refine xs_aload_n d83_47 rfl ?_
  refine xe_getc (j := 5) d83_48 ky83 fl56 fk9_1 rfl ?_
  refine xe_geti d83_51 ky83 fl31 fk8_3 ?_
  refine xs_iconst (v := 1) d83_54 (by decide) ?_
  refine xs_isub d83_55 ?_
  obtain ⟨q11, hc10, hf⟩ := lk_b hf
  refine xe_callv1 (as := [xi (0 : Int32), xi ((h.1 8 3 5) - (1 : Int32))]) (st := []) (h2 := q11.2) (d2 := d - 1) d83_56 ky83 ml22 st81 (by decide) cn81 rfl na81 (Nat.le_of_ble_eq_true rfl) (by omega) (f_TrugReader_readNumber_ok (by omega) hc10) ?_
  refine xe_istore_n (v := q11.1) (ls2 := [(0, xr 9 (some 0)), (1, xi v1), (2, xi q11.1)]) d83_59 mx83 (by decide) rfl rfl ?_
  refine xs_aload_n d83_60 rfl ?_
  refine xe_getc (j := 0) d83_61 ky83 fl55 fk9_0 rfl ?_
  obtain ⟨r12, hc13, hf⟩ := lk_b hf
  refine xe_callv1 (as := []) (st := []) (h2 := q11.2) (d2 := d - 1) d83_64 ky83 ml24 st69 (by decide) cn69 rfl na69 (Nat.le_of_ble_eq_true rfl) (by omega) (f_Tape_isWell_ok (by omega) hc13) ?_
  rcases lk_if hf with ⟨hc14, hf⟩ | ⟨hc14, hf⟩
  · refine xs_if_eq (tgt := 96) d83_67 (by decide) (fun _ => ?_) (fun hn => absurd hc14 hn)
    obtain ⟨eR, eH⟩ := K0 _ (Option.some.inj hf).symm
    subst eR; subst eH
    exact xs_vret d83_96 rt83
  · refine xs_if_eq (tgt := 96) d83_67 (by decide) (fun hp => absurd hp hc14) (fun _ => ?_)
    refine xs_aload_n d83_70 rfl ?_
    refine xe_getc (j := 5) d83_71 ky83 fl56 fk9_1 rfl ?_
    refine xs_iload_n d83_74 rfl ?_
    obtain ⟨r15, hc16, hf⟩ := lk_b hf
    refine xe_callv1 (as := [xi v1]) (st := []) (h2 := q11.2) (d2 := d - 1) d83_75 ky83 ml26 st76 (by decide) cn76 rfl na76 (Nat.le_of_ble_eq_true rfl) (by omega) (f_Told_hasSorrow_ok (by omega) hc16) ?_
    rcases lk_if hf with ⟨hc17, hf⟩ | ⟨hc17, hf⟩
    · refine xs_if_eq (tgt := 96) d83_78 (by decide) (fun _ => ?_) (fun hn => absurd hc17 hn)
      obtain ⟨eR, eH⟩ := K0 _ (Option.some.inj hf).symm
      subst eR; subst eH
      exact xs_vret d83_96 rt83
    · refine xs_if_eq (tgt := 96) d83_78 (by decide) (fun hp => absurd hp hc17) (fun _ => ?_)
      refine xs_aload_n d83_81 rfl ?_
      refine xe_getc (j := 5) d83_82 ky83 fl56 fk9_1 rfl ?_
      refine xe_getc (j := 5) d83_85 ky83 fl50 fk8_8 rfl ?_
      refine xs_iload_n d83_88 rfl ?_
      refine xs_dup2 d83_89 rfl rfl ?_
      obtain ⟨hin18, hf⟩ := lk_g hf
      refine xe_iald d83_90 (by decide) ak40 hin18 ?_
      refine xs_iconst (v := 1) d83_91 (by decide) ?_
      refine xs_iload_n d83_92 rfl ?_
      refine xs_ishl d83_93 ?_
      refine xs_ior d83_94 ?_
      obtain ⟨hin19, hf⟩ := lk_g hf
      obtain ⟨h20, eh20, hf⟩ := lk_let hf
      refine xe_iast d83_95 (by decide) ak40 hin19  eh20 ?_
      obtain ⟨eR, eH⟩ := K0 _ (Option.some.inj hf).symm
      subst eR; subst eH
      exact xs_vret d83_96 rt83
noncomputable def f_TrugReader_readUnder_e (h : xH) : Option xH :=
  (f_TrugReader_readNumber (0 : Int32) ((h.1 8 3 5) - (1 : Int32)) h).bind fun q3 =>
  if (q3.2.1 7 7 0) = (2 : Int32) then (
  if (q3.2.1 7 8 0) = q3.1 then (
  (f_Tape_fail (1 : Int32) q3.2).bind fun h8 =>
  f_TrugReader_readUnder_b45 q3.1 h8) else (
  f_TrugReader_readUnder_b45 q3.1 q3.2)) else (
  f_TrugReader_readUnder_b45 q3.1 q3.2)
set_option maxHeartbeats 4000000 in
set_option maxRecDepth 100000 in
theorem f_TrugReader_readUnder_e_ok {g : xG} {l : Launch} {d : Nat} {h : xH} {o : xH} {R : Option xV} {H' : xH} (hD : 2 ≤ d) (hf : f_TrugReader_readUnder_e h = some o) (K0 : ∀ (h1 : xH), o = h1 → R = none ∧ H' = h1) : xEv g l d 83 0 [(0, xr 9 (some 0))] [] h R H' := by
  unfold f_TrugReader_readUnder_e at hf
  refine xs_aload_n d83_0 rfl ?_
  refine xs_iconst (v := 0) d83_1 (by decide) ?_
  refine xs_aload_n d83_2 rfl ?_
  refine xe_getc (j := 5) d83_3 ky83 fl56 fk9_1 rfl ?_
  refine xe_geti d83_6 ky83 fl31 fk8_3 ?_
  refine xs_iconst (v := 1) d83_9 (by decide) ?_
  refine xs_isub d83_10 ?_
  obtain ⟨q3, hc2, hf⟩ := lk_b hf
  refine xe_callv1 (as := [xi (0 : Int32), xi ((h.1 8 3 5) - (1 : Int32))]) (st := []) (h2 := q3.2) (d2 := d - 1) d83_11 ky83 ml22 st81 (by decide) cn81 rfl na81 (Nat.le_of_ble_eq_true rfl) (by omega) (f_TrugReader_readNumber_ok (by omega) hc2) ?_
  refine xe_istore_n (v := q3.1) (ls2 := [(0, xr 9 (some 0)), (1, xi q3.1)]) d83_14 mx83 (by decide) rfl rfl ?_
  refine xs_aload_n d83_15 rfl ?_
  refine xe_getc (j := 0) d83_16 ky83 fl55 fk9_0 rfl ?_
  refine xe_geti d83_19 ky83 fl8 fk7_7 ?_
  refine xs_iconst (v := 2) d83_22 (by decide) ?_
  rcases lk_if hf with ⟨hc4, hf⟩ | ⟨hc4, hf⟩
  · refine xs_icmp_ne (tgt := 45) d83_23 (by decide) (fun _ => ?_) (fun hn => absurd hc4 hn)
    refine xs_aload_n d83_26 rfl ?_
    refine xe_getc (j := 0) d83_27 ky83 fl55 fk9_0 rfl ?_
    refine xe_geti d83_30 ky83 fl11 fk7_8 ?_
    refine xs_iload_n d83_33 rfl ?_
    rcases lk_if hf with ⟨hc5, hf⟩ | ⟨hc5, hf⟩
    · refine xs_icmp_ne (tgt := 45) d83_34 (by decide) (fun _ => ?_) (fun hn => absurd hc5 hn)
      refine xs_aload_n d83_37 rfl ?_
      refine xe_getc (j := 0) d83_38 ky83 fl55 fk9_0 rfl ?_
      refine xs_iconst (v := 1) d83_41 (by decide) ?_
      obtain ⟨h8, hc7, hf⟩ := lk_b hf
      refine xe_callv0 (as := [xi (1 : Int32)]) (st := []) (h2 := h8) (d2 := d - 1) d83_42 ky83 ml19 st70 (by decide) cn70 rfl na70 (Nat.le_of_ble_eq_true rfl) (by omega) (f_Tape_fail_ok (by omega) hc7) ?_
      exact f_TrugReader_readUnder_b45_ok hD hf K0
    · refine xs_icmp_ne (tgt := 45) d83_34 (by decide) (fun hp => absurd hp hc5) (fun _ => ?_)
      exact f_TrugReader_readUnder_b45_ok hD hf K0
  · refine xs_icmp_ne (tgt := 45) d83_23 (by decide) (fun hp => absurd hp hc4) (fun _ => ?_)
    exact f_TrugReader_readUnder_b45_ok hD hf K0
noncomputable def f_TrugReader_readUnder (h : xH) : Option xH := f_TrugReader_readUnder_e h
theorem f_TrugReader_readUnder_ok {g : xG} {l : Launch} {d : Nat} {h : xH} {h1 : xH} (hD : 2 ≤ d) (hf : f_TrugReader_readUnder h = some h1) : xC g l d 83 [xr 9 (some 0)] h none h1 :=
  xC_of2 (by decide) mx83 (Nat.le_of_ble_eq_true rfl) (f_TrugReader_readUnder_e_ok hD hf (fun _ e => ⟨rfl, e⟩))
theorem d84_0 : decode (xcode 84) 0 = .ok (.aload_n 0, 1) := by decide +kernel
theorem d84_1 : decode (xcode 84) 1 = .ok (.iconst 1, 1) := by decide +kernel
theorem d84_2 : decode (xcode 84) 2 = .ok (.bipush 60, 2) := by decide +kernel
theorem d84_4 : decode (xcode 84) 4 = .ok (.invokevirtual 64, 3) := by decide +kernel
theorem d84_7 : decode (xcode 84) 7 = .ok (.istore_n 1, 1) := by decide +kernel
theorem d84_8 : decode (xcode 84) 8 = .ok (.aload_n 0, 1) := by decide +kernel
theorem d84_9 : decode (xcode 84) 9 = .ok (.getfield 9, 3) := by decide +kernel
theorem d84_12 : decode (xcode 84) 12 = .ok (.invokevirtual 89, 3) := by decide +kernel
theorem d84_15 : decode (xcode 84) 15 = .ok (.ifCond .eq 53, 3) := by decide +kernel
theorem d84_18 : decode (xcode 84) 18 = .ok (.aload_n 0, 1) := by decide +kernel
theorem d84_19 : decode (xcode 84) 19 = .ok (.getfield 15, 3) := by decide +kernel
theorem d84_22 : decode (xcode 84) 22 = .ok (.getfield 86, 3) := by decide +kernel
theorem d84_25 : decode (xcode 84) 25 = .ok (.ifCond .lt 43, 3) := by decide +kernel
theorem d84_28 : decode (xcode 84) 28 = .ok (.aload_n 0, 1) := by decide +kernel
theorem d84_29 : decode (xcode 84) 29 = .ok (.getfield 15, 3) := by decide +kernel
theorem d84_32 : decode (xcode 84) 32 = .ok (.getfield 86, 3) := by decide +kernel
theorem d84_35 : decode (xcode 84) 35 = .ok (.iconst 4, 1) := by decide +kernel
theorem d84_36 : decode (xcode 84) 36 = .ok (.if_icmp .ge 32, 3) := by decide +kernel
theorem d84_39 : decode (xcode 84) 39 = .ok (.aload_n 0, 1) := by decide +kernel
theorem d84_40 : decode (xcode 84) 40 = .ok (.getfield 15, 3) := by decide +kernel
theorem d84_43 : decode (xcode 84) 43 = .ok (.getfield 108, 3) := by decide +kernel
theorem d84_46 : decode (xcode 84) 46 = .ok (.aload_n 0, 1) := by decide +kernel
theorem d84_47 : decode (xcode 84) 47 = .ok (.getfield 15, 3) := by decide +kernel
theorem d84_50 : decode (xcode 84) 50 = .ok (.getfield 86, 3) := by decide +kernel
theorem d84_53 : decode (xcode 84) 53 = .ok (.iload_n 1, 1) := by decide +kernel
theorem d84_54 : decode (xcode 84) 54 = .ok (.iastore, 1) := by decide +kernel
theorem d84_55 : decode (xcode 84) 55 = .ok (.aload_n 0, 1) := by decide +kernel
theorem d84_56 : decode (xcode 84) 56 = .ok (.getfield 15, 3) := by decide +kernel
theorem d84_59 : decode (xcode 84) 59 = .ok (.dup, 1) := by decide +kernel
theorem d84_60 : decode (xcode 84) 60 = .ok (.getfield 86, 3) := by decide +kernel
theorem d84_63 : decode (xcode 84) 63 = .ok (.iconst 1, 1) := by decide +kernel
theorem d84_64 : decode (xcode 84) 64 = .ok (.iadd, 1) := by decide +kernel
theorem d84_65 : decode (xcode 84) 65 = .ok (.putfield 86, 3) := by decide +kernel
theorem d84_68 : decode (xcode 84) 68 = .ok (.return_, 1) := by decide +kernel
noncomputable def f_TrugReader_readCarrier_e (h : xH) : Option xH :=
  (f_TrugReader_readNumber (1 : Int32) (60 : Int32) h).bind fun q3 =>
  (f_Tape_isWell q3.2).bind fun r4 =>
  if r4 = (0 : Int32) then (
  some (q3.2)) else (
  if (q3.2.1 8 4 5) < (0 : Int32) then (
  some (q3.2)) else (
  if (4 : Int32) ≤ (q3.2.1 8 4 5) then (
  some (q3.2)) else (
  if xib (q3.2.1 8 4 5) 4 then (
  xlet (xsA q3.2 41 5 (upd (q3.2.2.2.2.1 41 5) (q3.2.1 8 4 5).toNatClampNeg q3.1)) fun h10 =>
  xlet (xsI h10 8 4 5 ((h10.1 8 4 5) + (1 : Int32))) fun h11 =>
  some (h11)) else none)))
set_option maxHeartbeats 4000000 in
set_option maxRecDepth 100000 in
theorem f_TrugReader_readCarrier_e_ok {g : xG} {l : Launch} {d : Nat} {h : xH} {o : xH} {R : Option xV} {H' : xH} (hD : 2 ≤ d) (hf : f_TrugReader_readCarrier_e h = some o) (K0 : ∀ (h1 : xH), o = h1 → R = none ∧ H' = h1) : xEv g l d 84 0 [(0, xr 9 (some 0))] [] h R H' := by
  unfold f_TrugReader_readCarrier_e at hf
  refine xs_aload_n d84_0 rfl ?_
  refine xs_iconst (v := 1) d84_1 (by decide) ?_
  refine xs_bipush (v := 60) d84_2 (by decide) ?_
  obtain ⟨q3, hc2, hf⟩ := lk_b hf
  refine xe_callv1 (as := [xi (1 : Int32), xi (60 : Int32)]) (st := []) (h2 := q3.2) (d2 := d - 1) d84_4 ky84 ml22 st81 (by decide) cn81 rfl na81 (Nat.le_of_ble_eq_true rfl) (by omega) (f_TrugReader_readNumber_ok (by omega) hc2) ?_
  refine xe_istore_n (v := q3.1) (ls2 := [(0, xr 9 (some 0)), (1, xi q3.1)]) d84_7 mx84 (by decide) rfl rfl ?_
  refine xs_aload_n d84_8 rfl ?_
  refine xe_getc (j := 0) d84_9 ky84 fl55 fk9_0 rfl ?_
  obtain ⟨r4, hc5, hf⟩ := lk_b hf
  refine xe_callv1 (as := []) (st := []) (h2 := q3.2) (d2 := d - 1) d84_12 ky84 ml24 st69 (by decide) cn69 rfl na69 (Nat.le_of_ble_eq_true rfl) (by omega) (f_Tape_isWell_ok (by omega) hc5) ?_
  rcases lk_if hf with ⟨hc6, hf⟩ | ⟨hc6, hf⟩
  · refine xs_if_eq (tgt := 68) d84_15 (by decide) (fun _ => ?_) (fun hn => absurd hc6 hn)
    obtain ⟨eR, eH⟩ := K0 _ (Option.some.inj hf).symm
    subst eR; subst eH
    exact xs_vret d84_68 rt84
  · refine xs_if_eq (tgt := 68) d84_15 (by decide) (fun hp => absurd hp hc6) (fun _ => ?_)
    refine xs_aload_n d84_18 rfl ?_
    refine xe_getc (j := 5) d84_19 ky84 fl56 fk9_1 rfl ?_
    refine xe_geti d84_22 ky84 fl34 fk8_4 ?_
    rcases lk_if hf with ⟨hc7, hf⟩ | ⟨hc7, hf⟩
    · refine xs_if_lt (tgt := 68) d84_25 (by decide) (fun _ => ?_) (fun hn => absurd hc7 hn)
      obtain ⟨eR, eH⟩ := K0 _ (Option.some.inj hf).symm
      subst eR; subst eH
      exact xs_vret d84_68 rt84
    · refine xs_if_lt (tgt := 68) d84_25 (by decide) (fun hp => absurd hp hc7) (fun _ => ?_)
      refine xs_aload_n d84_28 rfl ?_
      refine xe_getc (j := 5) d84_29 ky84 fl56 fk9_1 rfl ?_
      refine xe_geti d84_32 ky84 fl34 fk8_4 ?_
      refine xs_iconst (v := 4) d84_35 (by decide) ?_
      rcases lk_if hf with ⟨hc8, hf⟩ | ⟨hc8, hf⟩
      · refine xs_icmp_ge (tgt := 68) d84_36 (by decide) (fun _ => ?_) (fun hn => absurd hc8 hn)
        obtain ⟨eR, eH⟩ := K0 _ (Option.some.inj hf).symm
        subst eR; subst eH
        exact xs_vret d84_68 rt84
      · refine xs_icmp_ge (tgt := 68) d84_36 (by decide) (fun hp => absurd hp hc8) (fun _ => ?_)
        refine xs_aload_n d84_39 rfl ?_
        refine xe_getc (j := 5) d84_40 ky84 fl56 fk9_1 rfl ?_
        refine xe_getc (j := 5) d84_43 ky84 fl54 fk8_9 rfl ?_
        refine xs_aload_n d84_46 rfl ?_
        refine xe_getc (j := 5) d84_47 ky84 fl56 fk9_1 rfl ?_
        refine xe_geti d84_50 ky84 fl34 fk8_4 ?_
        refine xs_iload_n d84_53 rfl ?_
        obtain ⟨hin9, hf⟩ := lk_g hf
        obtain ⟨h10, eh10, hf⟩ := lk_let hf
        refine xe_iast d84_54 (by decide) ak41 hin9  eh10 ?_
        refine xs_aload_n d84_55 rfl ?_
        refine xe_getc (j := 5) d84_56 ky84 fl56 fk9_1 rfl ?_
        refine xs_dup d84_59 rfl ?_
        refine xe_geti d84_60 ky84 fl34 fk8_4 ?_
        refine xs_iconst (v := 1) d84_63 (by decide) ?_
        refine xs_iadd d84_64 ?_
        obtain ⟨h11, eh11, hf⟩ := lk_let hf
        refine xe_puti d84_65 ky84 fl34 fk8_4 ft8_4 eh11 ?_
        obtain ⟨eR, eH⟩ := K0 _ (Option.some.inj hf).symm
        subst eR; subst eH
        exact xs_vret d84_68 rt84
noncomputable def f_TrugReader_readCarrier (h : xH) : Option xH := f_TrugReader_readCarrier_e h
theorem f_TrugReader_readCarrier_ok {g : xG} {l : Launch} {d : Nat} {h : xH} {h1 : xH} (hD : 2 ≤ d) (hf : f_TrugReader_readCarrier h = some h1) : xC g l d 84 [xr 9 (some 0)] h none h1 :=
  xC_of2 (by decide) mx84 (Nat.le_of_ble_eq_true rfl) (f_TrugReader_readCarrier_e_ok hD hf (fun _ e => ⟨rfl, e⟩))
theorem d79_0 : decode (xcode 79) 0 = .ok (.aload_n 0, 1) := by decide +kernel
theorem d79_1 : decode (xcode 79) 1 = .ok (.getfield 9, 3) := by decide +kernel
theorem d79_4 : decode (xcode 79) 4 = .ok (.getfield 47, 3) := by decide +kernel
theorem d79_7 : decode (xcode 79) 7 = .ok (.iconst 1, 1) := by decide +kernel
theorem d79_8 : decode (xcode 79) 8 = .ok (.if_icmp .ne 13, 3) := by decide +kernel
theorem d79_11 : decode (xcode 79) 11 = .ok (.aload_n 0, 1) := by decide +kernel
theorem d79_12 : decode (xcode 79) 12 = .ok (.getfield 9, 3) := by decide +kernel
theorem d79_15 : decode (xcode 79) 15 = .ok (.getfield 50, 3) := by decide +kernel
theorem d79_18 : decode (xcode 79) 18 = .ok (.goto 4, 3) := by decide +kernel
theorem d79_21 : decode (xcode 79) 21 = .ok (.iconst (-1), 1) := by decide +kernel
theorem d79_22 : decode (xcode 79) 22 = .ok (.istore_n 1, 1) := by decide +kernel
theorem d79_23 : decode (xcode 79) 23 = .ok (.iload_n 1, 1) := by decide +kernel
theorem d79_24 : decode (xcode 79) 24 = .ok (.bipush 12, 2) := by decide +kernel
theorem d79_26 : decode (xcode 79) 26 = .ok (.if_icmp .eq 28, 3) := by decide +kernel
theorem d79_29 : decode (xcode 79) 29 = .ok (.iload_n 1, 1) := by decide +kernel
theorem d79_30 : decode (xcode 79) 30 = .ok (.ifCond .eq 24, 3) := by decide +kernel
theorem d79_33 : decode (xcode 79) 33 = .ok (.iload_n 1, 1) := by decide +kernel
theorem d79_34 : decode (xcode 79) 34 = .ok (.bipush 13, 2) := by decide +kernel
theorem d79_36 : decode (xcode 79) 36 = .ok (.if_icmp .eq 18, 3) := by decide +kernel
theorem d79_39 : decode (xcode 79) 39 = .ok (.iload_n 1, 1) := by decide +kernel
theorem d79_40 : decode (xcode 79) 40 = .ok (.bipush 14, 2) := by decide +kernel
theorem d79_42 : decode (xcode 79) 42 = .ok (.if_icmp .eq 12, 3) := by decide +kernel
theorem d79_45 : decode (xcode 79) 45 = .ok (.aload_n 0, 1) := by decide +kernel
theorem d79_46 : decode (xcode 79) 46 = .ok (.getfield 9, 3) := by decide +kernel
theorem d79_49 : decode (xcode 79) 49 = .ok (.iconst 0, 1) := by decide +kernel
theorem d79_50 : decode (xcode 79) 50 = .ok (.invokevirtual 53, 3) := by decide +kernel
theorem d79_53 : decode (xcode 79) 53 = .ok (.return_, 1) := by decide +kernel
theorem d79_54 : decode (xcode 79) 54 = .ok (.aload_n 0, 1) := by decide +kernel
theorem d79_55 : decode (xcode 79) 55 = .ok (.iload_n 1, 1) := by decide +kernel
theorem d79_56 : decode (xcode 79) 56 = .ok (.invokevirtual 57, 3) := by decide +kernel
theorem d79_59 : decode (xcode 79) 59 = .ok (.ifCond .eq 12, 3) := by decide +kernel
theorem d79_62 : decode (xcode 79) 62 = .ok (.aload_n 0, 1) := by decide +kernel
theorem d79_63 : decode (xcode 79) 63 = .ok (.getfield 9, 3) := by decide +kernel
theorem d79_66 : decode (xcode 79) 66 = .ok (.iconst 4, 1) := by decide +kernel
theorem d79_67 : decode (xcode 79) 67 = .ok (.invokevirtual 53, 3) := by decide +kernel
theorem d79_70 : decode (xcode 79) 70 = .ok (.return_, 1) := by decide +kernel
theorem d79_71 : decode (xcode 79) 71 = .ok (.aload_n 0, 1) := by decide +kernel
theorem d79_72 : decode (xcode 79) 72 = .ok (.dup, 1) := by decide +kernel
theorem d79_73 : decode (xcode 79) 73 = .ok (.getfield 28, 3) := by decide +kernel
theorem d79_76 : decode (xcode 79) 76 = .ok (.iconst 1, 1) := by decide +kernel
theorem d79_77 : decode (xcode 79) 77 = .ok (.iadd, 1) := by decide +kernel
theorem d79_78 : decode (xcode 79) 78 = .ok (.putfield 28, 3) := by decide +kernel
theorem d79_81 : decode (xcode 79) 81 = .ok (.aload_n 0, 1) := by decide +kernel
theorem d79_82 : decode (xcode 79) 82 = .ok (.getfield 9, 3) := by decide +kernel
theorem d79_85 : decode (xcode 79) 85 = .ok (.invokevirtual 61, 3) := by decide +kernel
theorem d79_88 : decode (xcode 79) 88 = .ok (.iload_n 1, 1) := by decide +kernel
theorem d79_89 : decode (xcode 79) 89 = .ok (.bipush 12, 2) := by decide +kernel
theorem d79_91 : decode (xcode 79) 91 = .ok (.if_icmp .ne 35, 3) := by decide +kernel
theorem d79_94 : decode (xcode 79) 94 = .ok (.aload_n 0, 1) := by decide +kernel
theorem d79_95 : decode (xcode 79) 95 = .ok (.getfield 15, 3) := by decide +kernel
theorem d79_98 : decode (xcode 79) 98 = .ok (.aload_n 0, 1) := by decide +kernel
theorem d79_99 : decode (xcode 79) 99 = .ok (.iconst 1, 1) := by decide +kernel
theorem d79_100 : decode (xcode 79) 100 = .ok (.sipush 300, 3) := by decide +kernel
theorem d79_103 : decode (xcode 79) 103 = .ok (.invokevirtual 64, 3) := by decide +kernel
theorem d79_106 : decode (xcode 79) 106 = .ok (.putfield 68, 3) := by decide +kernel
theorem d79_109 : decode (xcode 79) 109 = .ok (.aload_n 0, 1) := by decide +kernel
theorem d79_110 : decode (xcode 79) 110 = .ok (.getfield 15, 3) := by decide +kernel
theorem d79_113 : decode (xcode 79) 113 = .ok (.aload_n 0, 1) := by decide +kernel
theorem d79_114 : decode (xcode 79) 114 = .ok (.iconst 0, 1) := by decide +kernel
theorem d79_115 : decode (xcode 79) 115 = .ok (.bipush 20, 2) := by decide +kernel
theorem d79_117 : decode (xcode 79) 117 = .ok (.invokevirtual 64, 3) := by decide +kernel
theorem d79_120 : decode (xcode 79) 120 = .ok (.putfield 71, 3) := by decide +kernel
theorem d79_123 : decode (xcode 79) 123 = .ok (.goto 31, 3) := by decide +kernel
theorem d79_126 : decode (xcode 79) 126 = .ok (.iload_n 1, 1) := by decide +kernel
theorem d79_127 : decode (xcode 79) 127 = .ok (.ifCond .ne 10, 3) := by decide +kernel
theorem d79_130 : decode (xcode 79) 130 = .ok (.aload_n 0, 1) := by decide +kernel
theorem d79_131 : decode (xcode 79) 131 = .ok (.invokevirtual 74, 3) := by decide +kernel
theorem d79_134 : decode (xcode 79) 134 = .ok (.goto 20, 3) := by decide +kernel
theorem d79_137 : decode (xcode 79) 137 = .ok (.iload_n 1, 1) := by decide +kernel
theorem d79_138 : decode (xcode 79) 138 = .ok (.bipush 13, 2) := by decide +kernel
theorem d79_140 : decode (xcode 79) 140 = .ok (.if_icmp .ne 10, 3) := by decide +kernel
theorem d79_143 : decode (xcode 79) 143 = .ok (.aload_n 0, 1) := by decide +kernel
theorem d79_144 : decode (xcode 79) 144 = .ok (.invokevirtual 77, 3) := by decide +kernel
theorem d79_147 : decode (xcode 79) 147 = .ok (.goto 7, 3) := by decide +kernel
theorem d79_150 : decode (xcode 79) 150 = .ok (.aload_n 0, 1) := by decide +kernel
theorem d79_151 : decode (xcode 79) 151 = .ok (.invokevirtual 80, 3) := by decide +kernel
theorem d79_154 : decode (xcode 79) 154 = .ok (.return_, 1) := by decide +kernel
noncomputable def f_TrugReader_readClause_b54 (v1 : Int32) (h : xH) : Option xH :=
  (f_TrugReader_isTooMany v1 h).bind fun r3 =>
  if r3 = (0 : Int32) then (
  xlet (xsI h 9 2 0 ((h.1 9 2 0) + (1 : Int32))) fun h6 =>
  (f_Tape_goOn h6).bind fun h9 =>
  if v1 = (12 : Int32) then (
  (f_TrugReader_readNumber (1 : Int32) (300 : Int32) h9).bind fun q13 =>
  xlet (xsI q13.2 8 1 5 q13.1) fun h14 =>
  (f_TrugReader_readNumber (0 : Int32) (20 : Int32) h14).bind fun q17 =>
  xlet (xsI q17.2 8 2 5 q17.1) fun h18 =>
  some (h18)) else (
  if v1 = (0 : Int32) then (
  (f_TrugReader_readSorrow h9).bind fun h22 =>
  some (h22)) else (
  if v1 = (13 : Int32) then (
  (f_TrugReader_readUnder h9).bind fun h26 =>
  some (h26)) else (
  (f_TrugReader_readCarrier h9).bind fun h29 =>
  some (h29))))) else (
  (f_Tape_fail (4 : Int32) h).bind fun h32 =>
  some (h32))
set_option maxHeartbeats 4000000 in
set_option maxRecDepth 100000 in
theorem f_TrugReader_readClause_b54_ok {g : xG} {l : Launch} {d : Nat} {v1 : Int32} {h : xH} {o : xH} {R : Option xV} {H' : xH} (hD : 3 ≤ d) (hf : f_TrugReader_readClause_b54 v1 h = some o) (K0 : ∀ (h1 : xH), o = h1 → R = none ∧ H' = h1) : xEv g l d 79 54 [(0, xr 9 (some 0)), (1, xi v1)] [] h R H' := by
  unfold f_TrugReader_readClause_b54 at hf
  refine xs_aload_n d79_54 rfl ?_
  refine xs_iload_n d79_55 rfl ?_
  obtain ⟨r3, hc4, hf⟩ := lk_b hf
  refine xe_callv1 (as := [xi v1]) (st := []) (h2 := h) (d2 := d - 1) d79_56 ky79 ml20 st80 (by decide) cn80 rfl na80 (Nat.le_of_ble_eq_true rfl) (by omega) (f_TrugReader_isTooMany_ok (by omega) hc4) ?_
  rcases lk_if hf with ⟨hc5, hf⟩ | ⟨hc5, hf⟩
  · refine xs_if_eq (tgt := 71) d79_59 (by decide) (fun _ => ?_) (fun hn => absurd hc5 hn)
    refine xs_aload_n d79_71 rfl ?_
    refine xs_dup d79_72 rfl ?_
    refine xe_geti d79_73 ky79 fl57 fk9_2 ?_
    refine xs_iconst (v := 1) d79_76 (by decide) ?_
    refine xs_iadd d79_77 ?_
    obtain ⟨h6, eh6, hf⟩ := lk_let hf
    refine xe_puti d79_78 ky79 fl57 fk9_2 ft9_2 eh6 ?_
    refine xs_aload_n d79_81 rfl ?_
    refine xe_getc (j := 0) d79_82 ky79 fl55 fk9_0 rfl ?_
    obtain ⟨h9, hc8, hf⟩ := lk_b hf
    refine xe_callv0 (as := []) (st := []) (h2 := h9) (d2 := d - 1) d79_85 ky79 ml21 st68 (by decide) cn68 rfl na68 (Nat.le_of_ble_eq_true rfl) (by omega) (f_Tape_goOn_ok (by omega) hc8) ?_
    refine xs_iload_n d79_88 rfl ?_
    refine xs_bipush (v := 12) d79_89 (by decide) ?_
    rcases lk_if hf with ⟨hc10, hf⟩ | ⟨hc10, hf⟩
    · refine xs_icmp_ne (tgt := 126) d79_91 (by decide) (fun _ => ?_) (fun hn => absurd hc10 hn)
      refine xs_aload_n d79_94 rfl ?_
      refine xe_getc (j := 5) d79_95 ky79 fl56 fk9_1 rfl ?_
      refine xs_aload_n d79_98 rfl ?_
      refine xs_iconst (v := 1) d79_99 (by decide) ?_
      refine xs_sipush (v := 300) d79_100 (by decide) ?_
      obtain ⟨q13, hc12, hf⟩ := lk_b hf
      refine xe_callv1 (as := [xi (1 : Int32), xi (300 : Int32)]) (st := [xr 8 (some 5)]) (h2 := q13.2) (d2 := d - 1) d79_103 ky79 ml22 st81 (by decide) cn81 rfl na81 (Nat.le_of_ble_eq_true rfl) (by omega) (f_TrugReader_readNumber_ok (by omega) hc12) ?_
      obtain ⟨h14, eh14, hf⟩ := lk_let hf
      refine xe_puti d79_106 ky79 fl21 fk8_1 ft8_1 eh14 ?_
      refine xs_aload_n d79_109 rfl ?_
      refine xe_getc (j := 5) d79_110 ky79 fl56 fk9_1 rfl ?_
      refine xs_aload_n d79_113 rfl ?_
      refine xs_iconst (v := 0) d79_114 (by decide) ?_
      refine xs_bipush (v := 20) d79_115 (by decide) ?_
      obtain ⟨q17, hc16, hf⟩ := lk_b hf
      refine xe_callv1 (as := [xi (0 : Int32), xi (20 : Int32)]) (st := [xr 8 (some 5)]) (h2 := q17.2) (d2 := d - 1) d79_117 ky79 ml22 st81 (by decide) cn81 rfl na81 (Nat.le_of_ble_eq_true rfl) (by omega) (f_TrugReader_readNumber_ok (by omega) hc16) ?_
      obtain ⟨h18, eh18, hf⟩ := lk_let hf
      refine xe_puti d79_120 ky79 fl26 fk8_2 ft8_2 eh18 ?_
      refine xs_goto (tgt := 154) d79_123 (by decide) ?_
      obtain ⟨eR, eH⟩ := K0 _ (Option.some.inj hf).symm
      subst eR; subst eH
      exact xs_vret d79_154 rt79
    · refine xs_icmp_ne (tgt := 126) d79_91 (by decide) (fun hp => absurd hp hc10) (fun _ => ?_)
      refine xs_iload_n d79_126 rfl ?_
      rcases lk_if hf with ⟨hc19, hf⟩ | ⟨hc19, hf⟩
      · refine xs_if_ne (tgt := 137) d79_127 (by decide) (fun _ => ?_) (fun hn => absurd hc19 hn)
        refine xs_aload_n d79_130 rfl ?_
        obtain ⟨h22, hc21, hf⟩ := lk_b hf
        refine xe_callv0 (as := []) (st := []) (h2 := h22) (d2 := d - 1) d79_131 ky79 ml23 st82 (by decide) cn82 rfl na82 (Nat.le_of_ble_eq_true rfl) (by omega) (f_TrugReader_readSorrow_ok (by omega) hc21) ?_
        refine xs_goto (tgt := 154) d79_134 (by decide) ?_
        obtain ⟨eR, eH⟩ := K0 _ (Option.some.inj hf).symm
        subst eR; subst eH
        exact xs_vret d79_154 rt79
      · refine xs_if_ne (tgt := 137) d79_127 (by decide) (fun hp => absurd hp hc19) (fun _ => ?_)
        refine xs_iload_n d79_137 rfl ?_
        refine xs_bipush (v := 13) d79_138 (by decide) ?_
        rcases lk_if hf with ⟨hc23, hf⟩ | ⟨hc23, hf⟩
        · refine xs_icmp_ne (tgt := 150) d79_140 (by decide) (fun _ => ?_) (fun hn => absurd hc23 hn)
          refine xs_aload_n d79_143 rfl ?_
          obtain ⟨h26, hc25, hf⟩ := lk_b hf
          refine xe_callv0 (as := []) (st := []) (h2 := h26) (d2 := d - 1) d79_144 ky79 ml25 st83 (by decide) cn83 rfl na83 (Nat.le_of_ble_eq_true rfl) (by omega) (f_TrugReader_readUnder_ok (by omega) hc25) ?_
          refine xs_goto (tgt := 154) d79_147 (by decide) ?_
          obtain ⟨eR, eH⟩ := K0 _ (Option.some.inj hf).symm
          subst eR; subst eH
          exact xs_vret d79_154 rt79
        · refine xs_icmp_ne (tgt := 150) d79_140 (by decide) (fun hp => absurd hp hc23) (fun _ => ?_)
          refine xs_aload_n d79_150 rfl ?_
          obtain ⟨h29, hc28, hf⟩ := lk_b hf
          refine xe_callv0 (as := []) (st := []) (h2 := h29) (d2 := d - 1) d79_151 ky79 ml27 st84 (by decide) cn84 rfl na84 (Nat.le_of_ble_eq_true rfl) (by omega) (f_TrugReader_readCarrier_ok (by omega) hc28) ?_
          obtain ⟨eR, eH⟩ := K0 _ (Option.some.inj hf).symm
          subst eR; subst eH
          exact xs_vret d79_154 rt79
  · refine xs_if_eq (tgt := 71) d79_59 (by decide) (fun hp => absurd hp hc5) (fun _ => ?_)
    refine xs_aload_n d79_62 rfl ?_
    refine xe_getc (j := 0) d79_63 ky79 fl55 fk9_0 rfl ?_
    refine xs_iconst (v := 4) d79_66 (by decide) ?_
    obtain ⟨h32, hc31, hf⟩ := lk_b hf
    refine xe_callv0 (as := [xi (4 : Int32)]) (st := []) (h2 := h32) (d2 := d - 1) d79_67 ky79 ml19 st70 (by decide) cn70 rfl na70 (Nat.le_of_ble_eq_true rfl) (by omega) (f_Tape_fail_ok (by omega) hc31) ?_
    obtain ⟨eR, eH⟩ := K0 _ (Option.some.inj hf).symm
    subst eR; subst eH
    exact xs_vret d79_70 rt79
noncomputable def f_TrugReader_readClause_b22 (t0 : Int32) (h : xH) : Option xH :=
  if t0 = (12 : Int32) then (
  f_TrugReader_readClause_b54 t0 h) else (
  if t0 = (0 : Int32) then (
  f_TrugReader_readClause_b54 t0 h) else (
  if t0 = (13 : Int32) then (
  f_TrugReader_readClause_b54 t0 h) else (
  if t0 = (14 : Int32) then (
  f_TrugReader_readClause_b54 t0 h) else (
  (f_Tape_fail (0 : Int32) h).bind fun h38 =>
  some (h38)))))
set_option maxHeartbeats 4000000 in
set_option maxRecDepth 100000 in
theorem f_TrugReader_readClause_b22_ok {g : xG} {l : Launch} {d : Nat} {t0 : Int32} {h : xH} {o : xH} {R : Option xV} {H' : xH} (hD : 3 ≤ d) (hf : f_TrugReader_readClause_b22 t0 h = some o) (K0 : ∀ (h1 : xH), o = h1 → R = none ∧ H' = h1) : xEv g l d 79 22 [(0, xr 9 (some 0))] [xi t0] h R H' := by
  unfold f_TrugReader_readClause_b22 at hf
  refine xe_istore_n (v := t0) (ls2 := [(0, xr 9 (some 0)), (1, xi t0)]) d79_22 mx79 (by decide) rfl rfl ?_
  refine xs_iload_n d79_23 rfl ?_
  refine xs_bipush (v := 12) d79_24 (by decide) ?_
  rcases lk_if hf with ⟨hc2, hf⟩ | ⟨hc2, hf⟩
  · refine xs_icmp_eq (tgt := 54) d79_26 (by decide) (fun _ => ?_) (fun hn => absurd hc2 hn)
    exact f_TrugReader_readClause_b54_ok hD hf K0
  · refine xs_icmp_eq (tgt := 54) d79_26 (by decide) (fun hp => absurd hp hc2) (fun _ => ?_)
    refine xs_iload_n d79_29 rfl ?_
    rcases lk_if hf with ⟨hc33, hf⟩ | ⟨hc33, hf⟩
    · refine xs_if_eq (tgt := 54) d79_30 (by decide) (fun _ => ?_) (fun hn => absurd hc33 hn)
      exact f_TrugReader_readClause_b54_ok hD hf K0
    · refine xs_if_eq (tgt := 54) d79_30 (by decide) (fun hp => absurd hp hc33) (fun _ => ?_)
      refine xs_iload_n d79_33 rfl ?_
      refine xs_bipush (v := 13) d79_34 (by decide) ?_
      rcases lk_if hf with ⟨hc34, hf⟩ | ⟨hc34, hf⟩
      · refine xs_icmp_eq (tgt := 54) d79_36 (by decide) (fun _ => ?_) (fun hn => absurd hc34 hn)
        exact f_TrugReader_readClause_b54_ok hD hf K0
      · refine xs_icmp_eq (tgt := 54) d79_36 (by decide) (fun hp => absurd hp hc34) (fun _ => ?_)
        refine xs_iload_n d79_39 rfl ?_
        refine xs_bipush (v := 14) d79_40 (by decide) ?_
        rcases lk_if hf with ⟨hc35, hf⟩ | ⟨hc35, hf⟩
        · refine xs_icmp_eq (tgt := 54) d79_42 (by decide) (fun _ => ?_) (fun hn => absurd hc35 hn)
          exact f_TrugReader_readClause_b54_ok hD hf K0
        · refine xs_icmp_eq (tgt := 54) d79_42 (by decide) (fun hp => absurd hp hc35) (fun _ => ?_)
          refine xs_aload_n d79_45 rfl ?_
          refine xe_getc (j := 0) d79_46 ky79 fl55 fk9_0 rfl ?_
          refine xs_iconst (v := 0) d79_49 (by decide) ?_
          obtain ⟨h38, hc37, hf⟩ := lk_b hf
          refine xe_callv0 (as := [xi (0 : Int32)]) (st := []) (h2 := h38) (d2 := d - 1) d79_50 ky79 ml19 st70 (by decide) cn70 rfl na70 (Nat.le_of_ble_eq_true rfl) (by omega) (f_Tape_fail_ok (by omega) hc37) ?_
          obtain ⟨eR, eH⟩ := K0 _ (Option.some.inj hf).symm
          subst eR; subst eH
          exact xs_vret d79_53 rt79
noncomputable def f_TrugReader_readClause_e (h : xH) : Option xH :=
  if (h.1 7 7 0) = (1 : Int32) then (
  f_TrugReader_readClause_b22 (h.1 7 8 0) h) else (
  f_TrugReader_readClause_b22 (-1 : Int32) h)
set_option maxHeartbeats 4000000 in
set_option maxRecDepth 100000 in
theorem f_TrugReader_readClause_e_ok {g : xG} {l : Launch} {d : Nat} {h : xH} {o : xH} {R : Option xV} {H' : xH} (hD : 3 ≤ d) (hf : f_TrugReader_readClause_e h = some o) (K0 : ∀ (h1 : xH), o = h1 → R = none ∧ H' = h1) : xEv g l d 79 0 [(0, xr 9 (some 0))] [] h R H' := by
  unfold f_TrugReader_readClause_e at hf
  refine xs_aload_n d79_0 rfl ?_
  refine xe_getc (j := 0) d79_1 ky79 fl55 fk9_0 rfl ?_
  refine xe_geti d79_4 ky79 fl8 fk7_7 ?_
  refine xs_iconst (v := 1) d79_7 (by decide) ?_
  rcases lk_if hf with ⟨hc1, hf⟩ | ⟨hc1, hf⟩
  · refine xs_icmp_ne (tgt := 21) d79_8 (by decide) (fun _ => ?_) (fun hn => absurd hc1 hn)
    refine xs_aload_n d79_11 rfl ?_
    refine xe_getc (j := 0) d79_12 ky79 fl55 fk9_0 rfl ?_
    refine xe_geti d79_15 ky79 fl11 fk7_8 ?_
    refine xs_goto (tgt := 22) d79_18 (by decide) ?_
    exact f_TrugReader_readClause_b22_ok hD hf K0
  · refine xs_icmp_ne (tgt := 21) d79_8 (by decide) (fun hp => absurd hp hc1) (fun _ => ?_)
    refine xs_iconst (v := -1) d79_21 (by decide) ?_
    exact f_TrugReader_readClause_b22_ok hD hf K0
noncomputable def f_TrugReader_readClause (h : xH) : Option xH := f_TrugReader_readClause_e h
theorem f_TrugReader_readClause_ok {g : xG} {l : Launch} {d : Nat} {h : xH} {h1 : xH} (hD : 3 ≤ d) (hf : f_TrugReader_readClause h = some h1) : xC g l d 79 [xr 9 (some 0)] h none h1 :=
  xC_of2 (by decide) mx79 (Nat.le_of_ble_eq_true rfl) (f_TrugReader_readClause_e_ok hD hf (fun _ e => ⟨rfl, e⟩))
theorem d78_0 : decode (xcode 78) 0 = .ok (.aload_n 0, 1) := by decide +kernel
theorem d78_1 : decode (xcode 78) 1 = .ok (.getfield 15, 3) := by decide +kernel
theorem d78_4 : decode (xcode 78) 4 = .ok (.invokevirtual 19, 3) := by decide +kernel
theorem d78_7 : decode (xcode 78) 7 = .ok (.aload_n 0, 1) := by decide +kernel
theorem d78_8 : decode (xcode 78) 8 = .ok (.getfield 15, 3) := by decide +kernel
theorem d78_11 : decode (xcode 78) 11 = .ok (.iconst 1, 1) := by decide +kernel
theorem d78_12 : decode (xcode 78) 12 = .ok (.putfield 24, 3) := by decide +kernel
theorem d78_15 : decode (xcode 78) 15 = .ok (.aload_n 0, 1) := by decide +kernel
theorem d78_16 : decode (xcode 78) 16 = .ok (.iconst 0, 1) := by decide +kernel
theorem d78_17 : decode (xcode 78) 17 = .ok (.putfield 28, 3) := by decide +kernel
theorem d78_20 : decode (xcode 78) 20 = .ok (.aload_n 0, 1) := by decide +kernel
theorem d78_21 : decode (xcode 78) 21 = .ok (.getfield 9, 3) := by decide +kernel
theorem d78_24 : decode (xcode 78) 24 = .ok (.invokevirtual 32, 3) := by decide +kernel
theorem d78_27 : decode (xcode 78) 27 = .ok (.iconst 1, 1) := by decide +kernel
theorem d78_28 : decode (xcode 78) 28 = .ok (.istore_n 1, 1) := by decide +kernel
theorem d78_29 : decode (xcode 78) 29 = .ok (.iconst 0, 1) := by decide +kernel
theorem d78_30 : decode (xcode 78) 30 = .ok (.istore_n 2, 1) := by decide +kernel
theorem d78_31 : decode (xcode 78) 31 = .ok (.iload_n 2, 1) := by decide +kernel
theorem d78_32 : decode (xcode 78) 32 = .ok (.bipush 40, 2) := by decide +kernel
theorem d78_34 : decode (xcode 78) 34 = .ok (.if_icmp .gt 25, 3) := by decide +kernel
theorem d78_37 : decode (xcode 78) 37 = .ok (.iload_n 1, 1) := by decide +kernel
theorem d78_38 : decode (xcode 78) 38 = .ok (.ifCond .eq 21, 3) := by decide +kernel
theorem d78_41 : decode (xcode 78) 41 = .ok (.aload_n 0, 1) := by decide +kernel
theorem d78_42 : decode (xcode 78) 42 = .ok (.invokevirtual 37, 3) := by decide +kernel
theorem d78_45 : decode (xcode 78) 45 = .ok (.aload_n 0, 1) := by decide +kernel
theorem d78_46 : decode (xcode 78) 46 = .ok (.getfield 9, 3) := by decide +kernel
theorem d78_49 : decode (xcode 78) 49 = .ok (.invokevirtual 40, 3) := by decide +kernel
theorem d78_52 : decode (xcode 78) 52 = .ok (.istore_n 1, 1) := by decide +kernel
theorem d78_53 : decode (xcode 78) 53 = .ok (.iinc 2 1, 3) := by decide +kernel
theorem d78_56 : decode (xcode 78) 56 = .ok (.goto (-25), 3) := by decide +kernel
theorem d78_59 : decode (xcode 78) 59 = .ok (.aload_n 0, 1) := by decide +kernel
theorem d78_60 : decode (xcode 78) 60 = .ok (.getfield 9, 3) := by decide +kernel
theorem d78_63 : decode (xcode 78) 63 = .ok (.getfield 44, 3) := by decide +kernel
theorem d78_66 : decode (xcode 78) 66 = .ok (.ireturn, 1) := by decide +kernel
noncomputable def f_TrugReader_readAll_b59 (h : xH) : Option (Int32 × xH) :=
  some ((h.1 7 9 0, h))
set_option maxHeartbeats 4000000 in
set_option maxRecDepth 100000 in
theorem f_TrugReader_readAll_b59_ok {g : xG} {l : Launch} {d : Nat} {h : xH} {o : (Int32 × xH)} {R : Option xV} {H' : xH} (hD : 8 ≤ d) (hf : f_TrugReader_readAll_b59 h = some o) (K0 : ∀ (a : Int32) (h1 : xH), o = (a, h1) → R = some (xi a) ∧ H' = h1) : xEv g l d 78 59 [(0, xr 9 (some 0))] [] h R H' := by
  unfold f_TrugReader_readAll_b59 at hf
  refine xs_aload_n d78_59 rfl ?_
  refine xe_getc (j := 0) d78_60 ky78 fl55 fk9_0 rfl ?_
  refine xe_geti d78_63 ky78 fl14 fk7_9 ?_
  obtain ⟨eR, eH⟩ := K0 _ _ (Option.some.inj hf).symm
  subst eR; subst eH
  exact xs_iret d78_66 rt78
noncomputable def f_TrugReader_readAll_s31 (v1 : Int32) (v2 : Int32) (h : xH) : Option ((Int32 × Int32 × xH) ⊕ (Int32 × xH)) :=
  if (40 : Int32) < v2 then (
  xup (f_TrugReader_readAll_b59 h)) else (
  if v1 = (0 : Int32) then (
  xup (f_TrugReader_readAll_b59 h)) else (
  (f_TrugReader_readClause h).bind fun h13 =>
  (f_Tape_goToClause h13).bind fun q16 =>
  xlet (v2 + (1 : Int32)) fun v2_17 =>
  some (Sum.inl (q16.1, v2_17, q16.2))))
set_option maxHeartbeats 4000000 in
set_option maxRecDepth 100000 in
theorem f_TrugReader_readAll_s31_ok {g : xG} {l : Launch} {d : Nat} {v1 : Int32} {v2 : Int32} {h : xH} {o : ((Int32 × Int32 × xH) ⊕ (Int32 × xH))} {R : Option xV} {H' : xH} (hD : 8 ≤ d) (hf : f_TrugReader_readAll_s31 v1 v2 h = some o) (K1 : ∀ (w1 : Int32) (w2 : Int32) (h1 : xH), o = Sum.inl (w1, w2, h1) → xEv g l d 78 31 [(0, xr 9 (some 0)), (1, xi w1), (2, xi w2)] [] h1 R H') (K0 : ∀ (a : Int32) (h1 : xH), o = Sum.inr ((a, h1)) → R = some (xi a) ∧ H' = h1) : xEv g l d 78 31 [(0, xr 9 (some 0)), (1, xi v1), (2, xi v2)] [] h R H' := by
  unfold f_TrugReader_readAll_s31 at hf
  refine xs_iload_n d78_31 rfl ?_
  refine xs_bipush (v := 40) d78_32 (by decide) ?_
  rcases lk_if hf with ⟨hc9, hf⟩ | ⟨hc9, hf⟩
  · refine xs_icmp_gt (tgt := 59) d78_34 (by decide) (fun _ => ?_) (fun hn => absurd hc9 hn)
    refine xs_pick [0] rfl ?_
    obtain ⟨x0, hf, ex0⟩ := lk_up hf
    exact f_TrugReader_readAll_b59_ok hD hf (fun u0 u1 e => K0 u0 u1 (ex0.trans (congrArg Sum.inr e)))
  · refine xs_icmp_gt (tgt := 59) d78_34 (by decide) (fun hp => absurd hp hc9) (fun _ => ?_)
    refine xs_iload_n d78_37 rfl ?_
    rcases lk_if hf with ⟨hc10, hf⟩ | ⟨hc10, hf⟩
    · refine xs_if_eq (tgt := 59) d78_38 (by decide) (fun _ => ?_) (fun hn => absurd hc10 hn)
      refine xs_pick [0] rfl ?_
      obtain ⟨x0, hf, ex0⟩ := lk_up hf
      exact f_TrugReader_readAll_b59_ok hD hf (fun u0 u1 e => K0 u0 u1 (ex0.trans (congrArg Sum.inr e)))
    · refine xs_if_eq (tgt := 59) d78_38 (by decide) (fun hp => absurd hp hc10) (fun _ => ?_)
      refine xs_aload_n d78_41 rfl ?_
      obtain ⟨h13, hc12, hf⟩ := lk_b hf
      refine xe_callv0 (as := []) (st := []) (h2 := h13) (d2 := d - 1) d78_42 ky78 ml18 st79 (by decide) cn79 rfl na79 (Nat.le_of_ble_eq_true rfl) (by omega) (f_TrugReader_readClause_ok (by omega) hc12) ?_
      refine xs_aload_n d78_45 rfl ?_
      refine xe_getc (j := 0) d78_46 ky78 fl55 fk9_0 rfl ?_
      obtain ⟨q16, hc15, hf⟩ := lk_b hf
      refine xe_callv1 (as := []) (st := []) (h2 := q16.2) (d2 := d - 1) d78_49 ky78 ml28 st73 (by decide) cn73 rfl na73 (Nat.le_of_ble_eq_true rfl) (by omega) (f_Tape_goToClause_ok (by omega) hc15) ?_
      refine xe_istore_n (v := q16.1) (ls2 := [(0, xr 9 (some 0)), (1, xi q16.1), (2, xi v2)]) d78_52 mx78 (by decide) rfl rfl ?_
      obtain ⟨v2_17, ev2_17, hf⟩ := lk_let hf
      refine xe_iinc (v := v2_17) (b := 1) (ls2 := [(0, xr 9 (some 0)), (1, xi q16.1), (2, xi v2_17)]) d78_53 mx78 (by decide) rfl (by decide) ev2_17 rfl ?_
      refine xs_goto (tgt := 31) d78_56 (by decide) ?_
      exact K1 _ _ _ (Option.some.inj hf).symm
noncomputable def f_TrugReader_readAll_l31 (v1 : Int32) (v2 : Int32) (h : xH) : Option (Int32 × xH) :=
  whl (fun s => f_TrugReader_readAll_s31 s.1 s.2.1 s.2.2) (v1, v2, h)
theorem f_TrugReader_readAll_l31_ok {g : xG} {l : Launch} {d : Nat} {v1 : Int32} {v2 : Int32} {h : xH} {o : (Int32 × xH)} {R : Option xV} {H' : xH} (hD : 8 ≤ d) (hf : f_TrugReader_readAll_l31 v1 v2 h = some o) (K0 : ∀ (a : Int32) (h1 : xH), o = (a, h1) → R = some (xi a) ∧ H' = h1) : xEv g l d 78 31 [(0, xr 9 (some 0)), (1, xi v1), (2, xi v2)] [] h R H' := by
  obtain ⟨n, hn⟩ := whl_iff.mp hf
  clear hf
  induction n generalizing v1 v2 h with
  | zero => cases hn
  | succ n ih =>
    obtain ⟨o2, hs, hn⟩ := lk_b (show (f_TrugReader_readAll_s31 v1 v2 h).bind (fun o => Sum.elim (itn _ n) some o) = some o from hn)
    exact f_TrugReader_readAll_s31_ok hD hs (fun u0 u1 u2 e => ih (by rw [e] at hn; exact hn)) (fun u0 u1 e => K0 u0 u1 (by rw [e] at hn; exact (Option.some.inj hn).symm))
noncomputable def f_TrugReader_readAll_e (h : xH) : Option (Int32 × xH) :=
  (f_Told_clear 5 h).bind fun h3 =>
  xlet (xsI h3 8 0 5 (1 : Int32)) fun h4 =>
  xlet (xsI h4 9 2 0 (0 : Int32)) fun h5 =>
  (f_Tape_rewind h5).bind fun h8 =>
  f_TrugReader_readAll_l31 (1 : Int32) (0 : Int32) h8
set_option maxHeartbeats 4000000 in
set_option maxRecDepth 100000 in
theorem f_TrugReader_readAll_e_ok {g : xG} {l : Launch} {d : Nat} {h : xH} {o : (Int32 × xH)} {R : Option xV} {H' : xH} (hD : 8 ≤ d) (hf : f_TrugReader_readAll_e h = some o) (K0 : ∀ (a : Int32) (h1 : xH), o = (a, h1) → R = some (xi a) ∧ H' = h1) : xEv g l d 78 0 [(0, xr 9 (some 0))] [] h R H' := by
  unfold f_TrugReader_readAll_e at hf
  refine xs_aload_n d78_0 rfl ?_
  refine xe_getc (j := 5) d78_1 ky78 fl56 fk9_1 rfl ?_
  obtain ⟨h3, hc2, hf⟩ := lk_b hf
  refine xe_callv0 (as := []) (st := []) (h2 := h3) (d2 := d - 1) d78_4 ky78 ml6 st74 (by decide) cn74 rfl na74 (Nat.le_of_ble_eq_true rfl) (by omega) (f_Told_clear_ok (by omega) hc2) ?_
  refine xs_aload_n d78_7 rfl ?_
  refine xe_getc (j := 5) d78_8 ky78 fl56 fk9_1 rfl ?_
  refine xs_iconst (v := 1) d78_11 (by decide) ?_
  obtain ⟨h4, eh4, hf⟩ := lk_let hf
  refine xe_putz d78_12 ky78 fl18 fk8_0 ft8_0 (Or.inr rfl) eh4 ?_
  refine xs_aload_n d78_15 rfl ?_
  refine xs_iconst (v := 0) d78_16 (by decide) ?_
  obtain ⟨h5, eh5, hf⟩ := lk_let hf
  refine xe_puti d78_17 ky78 fl57 fk9_2 ft9_2 eh5 ?_
  refine xs_aload_n d78_20 rfl ?_
  refine xe_getc (j := 0) d78_21 ky78 fl55 fk9_0 rfl ?_
  obtain ⟨h8, hc7, hf⟩ := lk_b hf
  refine xe_callv0 (as := []) (st := []) (h2 := h8) (d2 := d - 1) d78_24 ky78 ml7 st61 (by decide) cn61 rfl na61 (Nat.le_of_ble_eq_true rfl) (by omega) (f_Tape_rewind_ok (by omega) hc7) ?_
  refine xs_iconst (v := 1) d78_27 (by decide) ?_
  refine xe_istore_n (v := (1 : Int32)) (ls2 := [(0, xr 9 (some 0)), (1, xi (1 : Int32))]) d78_28 mx78 (by decide) rfl rfl ?_
  refine xs_iconst (v := 0) d78_29 (by decide) ?_
  refine xe_istore_n (v := (0 : Int32)) (ls2 := [(0, xr 9 (some 0)), (1, xi (1 : Int32)), (2, xi (0 : Int32))]) d78_30 mx78 (by decide) rfl rfl ?_
  exact f_TrugReader_readAll_l31_ok hD hf K0
noncomputable def f_TrugReader_readAll (h : xH) : Option (Int32 × xH) := f_TrugReader_readAll_e h
theorem f_TrugReader_readAll_ok {g : xG} {l : Launch} {d : Nat} {h : xH} {r : Int32} {h1 : xH} (hD : 8 ≤ d) (hf : f_TrugReader_readAll h = some (r, h1)) : xC g l d 78 [xr 9 (some 0)] h (some (xi r)) h1 :=
  xC_of2 (by decide) mx78 (Nat.le_of_ble_eq_true rfl) (f_TrugReader_readAll_e_ok hD hf (fun _ _ e => by cases e; exact ⟨rfl, rfl⟩))
theorem d85_0 : decode (xcode 85) 0 = .ok (.aload_n 0, 1) := by decide +kernel
theorem d85_1 : decode (xcode 85) 1 = .ok (.aload_n 1, 1) := by decide +kernel
theorem d85_2 : decode (xcode 85) 2 = .ok (.putfield 27, 3) := by decide +kernel
theorem d85_5 : decode (xcode 85) 5 = .ok (.aload_n 0, 1) := by decide +kernel
theorem d85_6 : decode (xcode 85) 6 = .ok (.aload_n 3, 1) := by decide +kernel
theorem d85_7 : decode (xcode 85) 7 = .ok (.putfield 31, 3) := by decide +kernel
theorem d85_10 : decode (xcode 85) 10 = .ok (.aload_n 0, 1) := by decide +kernel
theorem d85_11 : decode (xcode 85) 11 = .ok (.iconst 0, 1) := by decide +kernel
theorem d85_12 : decode (xcode 85) 12 = .ok (.putfield 35, 3) := by decide +kernel
theorem d85_15 : decode (xcode 85) 15 = .ok (.aload_n 0, 1) := by decide +kernel
theorem d85_16 : decode (xcode 85) 16 = .ok (.getfield 12, 3) := by decide +kernel
theorem d85_19 : decode (xcode 85) 19 = .ok (.aload_n 2, 1) := by decide +kernel
theorem d85_20 : decode (xcode 85) 20 = .ok (.invokevirtual 39, 3) := by decide +kernel
theorem d85_23 : decode (xcode 85) 23 = .ok (.return_, 1) := by decide +kernel
noncomputable def f_Walk_start_e (i1 : Nat) (i2 : Nat) (v3 : Option Nat) (h : xH) : Option xH :=
  xlet (xsR h 10 3 0 (some i1)) fun h1 =>
  xlet (xsR h1 10 4 0 (v3)) fun h2 =>
  xlet (xsI h2 10 1 0 (0 : Int32)) fun h3 =>
  (f_State_copyFrom 25 i2 h3).bind fun h6 =>
  some (h6)
set_option maxHeartbeats 4000000 in
set_option maxRecDepth 100000 in
theorem f_Walk_start_e_ok {g : xG} {l : Launch} {d : Nat} {i1 : Nat} {i2 : Nat} {v3 : Option Nat} {h : xH} {o : xH} {R : Option xV} {H' : xH} (hD : 2 ≤ d) (hf : f_Walk_start_e i1 i2 v3 h = some o) (K0 : ∀ (h1 : xH), o = h1 → R = none ∧ H' = h1) : xEv g l d 85 0 [(0, xr 10 (some 0)), (1, xr 8 (some i1)), (2, xr 6 (some i2)), (3, xr 2 (v3))] [] h R H' := by
  unfold f_Walk_start_e at hf
  refine xs_aload_n d85_0 rfl ?_
  refine xs_aload_n d85_1 rfl ?_
  obtain ⟨h1, eh1, hf⟩ := lk_let hf
  refine xe_putd d85_2 ky85 fl116 fk10_3 ft10_3 eh1 ?_
  refine xs_aload_n d85_5 rfl ?_
  refine xs_aload_n d85_6 rfl ?_
  obtain ⟨h2, eh2, hf⟩ := lk_let hf
  refine xe_putd d85_7 ky85 fl117 fk10_4 ft10_4 eh2 ?_
  refine xs_aload_n d85_10 rfl ?_
  refine xs_iconst (v := 0) d85_11 (by decide) ?_
  obtain ⟨h3, eh3, hf⟩ := lk_let hf
  refine xe_putz d85_12 ky85 fl113 fk10_1 ft10_1 (Or.inl rfl) eh3 ?_
  refine xs_aload_n d85_15 rfl ?_
  refine xe_getc (j := 25) d85_16 ky85 fl111 fk10_0 rfl ?_
  refine xs_aload_n d85_19 rfl ?_
  obtain ⟨h6, hc5, hf⟩ := lk_b hf
  refine xe_callv0 (as := [xr 6 (some i2)]) (st := []) (h2 := h6) (d2 := d - 1) d85_20 ky85 ml70 st46 (by decide) cn46 rfl na46 (Nat.le_of_ble_eq_true rfl) (by omega) (f_State_copyFrom_ok (by omega) hc5) ?_
  obtain ⟨eR, eH⟩ := K0 _ (Option.some.inj hf).symm
  subst eR; subst eH
  exact xs_vret d85_23 rt85
noncomputable def f_Walk_start (i1 : Nat) (i2 : Nat) (v3 : Option Nat) (h : xH) : Option xH := f_Walk_start_e i1 i2 v3 h
theorem f_Walk_start_ok {g : xG} {l : Launch} {d : Nat} {i1 : Nat} {i2 : Nat} {v3 : Option Nat} {h : xH} {h1 : xH} (hD : 2 ≤ d) (hf : f_Walk_start i1 i2 v3 h = some h1) : xC g l d 85 [xr 10 (some 0), xr 8 (some i1), xr 6 (some i2), xr 2 (v3)] h none h1 :=
  xC_of2 (by decide) mx85 (Nat.le_of_ble_eq_true rfl) (f_Walk_start_e_ok hD hf (fun _ e => ⟨rfl, e⟩))
theorem d86_0 : decode (xcode 86) 0 = .ok (.aload_n 0, 1) := by decide +kernel
theorem d86_1 : decode (xcode 86) 1 = .ok (.aload_n 1, 1) := by decide +kernel
theorem d86_2 : decode (xcode 86) 2 = .ok (.putfield 27, 3) := by decide +kernel
theorem d86_5 : decode (xcode 86) 5 = .ok (.aload_n 0, 1) := by decide +kernel
theorem d86_6 : decode (xcode 86) 6 = .ok (.aload_n 2, 1) := by decide +kernel
theorem d86_7 : decode (xcode 86) 7 = .ok (.putfield 31, 3) := by decide +kernel
theorem d86_10 : decode (xcode 86) 10 = .ok (.aload_n 0, 1) := by decide +kernel
theorem d86_11 : decode (xcode 86) 11 = .ok (.iconst 0, 1) := by decide +kernel
theorem d86_12 : decode (xcode 86) 12 = .ok (.putfield 35, 3) := by decide +kernel
theorem d86_15 : decode (xcode 86) 15 = .ok (.aload_n 0, 1) := by decide +kernel
theorem d86_16 : decode (xcode 86) 16 = .ok (.getfield 12, 3) := by decide +kernel
theorem d86_19 : decode (xcode 86) 19 = .ok (.aload_n 1, 1) := by decide +kernel
theorem d86_20 : decode (xcode 86) 20 = .ok (.invokevirtual 43, 3) := by decide +kernel
theorem d86_23 : decode (xcode 86) 23 = .ok (.return_, 1) := by decide +kernel
noncomputable def f_Walk_startAnew_e (i1 : Nat) (v2 : Option Nat) (h : xH) : Option xH :=
  xlet (xsR h 10 3 0 (some i1)) fun h1 =>
  xlet (xsR h1 10 4 0 (v2)) fun h2 =>
  xlet (xsI h2 10 1 0 (0 : Int32)) fun h3 =>
  (f_State_begin 25 i1 h3).bind fun h6 =>
  some (h6)
set_option maxHeartbeats 4000000 in
set_option maxRecDepth 100000 in
theorem f_Walk_startAnew_e_ok {g : xG} {l : Launch} {d : Nat} {i1 : Nat} {v2 : Option Nat} {h : xH} {o : xH} {R : Option xV} {H' : xH} (hD : 2 ≤ d) (hf : f_Walk_startAnew_e i1 v2 h = some o) (K0 : ∀ (h1 : xH), o = h1 → R = none ∧ H' = h1) : xEv g l d 86 0 [(0, xr 10 (some 0)), (1, xr 8 (some i1)), (2, xr 2 (v2))] [] h R H' := by
  unfold f_Walk_startAnew_e at hf
  refine xs_aload_n d86_0 rfl ?_
  refine xs_aload_n d86_1 rfl ?_
  obtain ⟨h1, eh1, hf⟩ := lk_let hf
  refine xe_putd d86_2 ky86 fl116 fk10_3 ft10_3 eh1 ?_
  refine xs_aload_n d86_5 rfl ?_
  refine xs_aload_n d86_6 rfl ?_
  obtain ⟨h2, eh2, hf⟩ := lk_let hf
  refine xe_putd d86_7 ky86 fl117 fk10_4 ft10_4 eh2 ?_
  refine xs_aload_n d86_10 rfl ?_
  refine xs_iconst (v := 0) d86_11 (by decide) ?_
  obtain ⟨h3, eh3, hf⟩ := lk_let hf
  refine xe_putz d86_12 ky86 fl113 fk10_1 ft10_1 (Or.inl rfl) eh3 ?_
  refine xs_aload_n d86_15 rfl ?_
  refine xe_getc (j := 25) d86_16 ky86 fl111 fk10_0 rfl ?_
  refine xs_aload_n d86_19 rfl ?_
  obtain ⟨h6, hc5, hf⟩ := lk_b hf
  refine xe_callv0 (as := [xr 8 (some i1)]) (st := []) (h2 := h6) (d2 := d - 1) d86_20 ky86 ml157 st45 (by decide) cn45 rfl na45 (Nat.le_of_ble_eq_true rfl) (by omega) (f_State_begin_ok (by omega) hc5) ?_
  obtain ⟨eR, eH⟩ := K0 _ (Option.some.inj hf).symm
  subst eR; subst eH
  exact xs_vret d86_23 rt86
noncomputable def f_Walk_startAnew (i1 : Nat) (v2 : Option Nat) (h : xH) : Option xH := f_Walk_startAnew_e i1 v2 h
theorem f_Walk_startAnew_ok {g : xG} {l : Launch} {d : Nat} {i1 : Nat} {v2 : Option Nat} {h : xH} {h1 : xH} (hD : 2 ≤ d) (hf : f_Walk_startAnew i1 v2 h = some h1) : xC g l d 86 [xr 10 (some 0), xr 8 (some i1), xr 2 (v2)] h none h1 :=
  xC_of2 (by decide) mx86 (Nat.le_of_ble_eq_true rfl) (f_Walk_startAnew_e_ok hD hf (fun _ e => ⟨rfl, e⟩))
theorem d89_0 : decode (xcode 89) 0 = .ok (.iload_n 0, 1) := by decide +kernel
theorem d89_1 : decode (xcode 89) 1 = .ok (.invokestatic 79, 3) := by decide +kernel
theorem d89_4 : decode (xcode 89) 4 = .ok (.ireturn, 1) := by decide +kernel
noncomputable def f_Walk_leastOf_e (v0 : Int32) (h : xH) : Option Int32 :=
  (f_Integer_numberOfTrailingZeros v0 h).bind fun r1 =>
  some (r1)
set_option maxHeartbeats 4000000 in
set_option maxRecDepth 100000 in
theorem f_Walk_leastOf_e_ok {g : xG} {l : Launch} {d : Nat} {v0 : Int32} {h : xH} {o : Int32} {R : Option xV} (hD : 1 ≤ d) (hf : f_Walk_leastOf_e v0 h = some o) (K0 : ∀ (a : Int32), o = a → R = some (xi a)) : xEv g l d 89 0 [(0, xi v0)] [] h R h := by
  unfold f_Walk_leastOf_e at hf
  refine xs_iload_n d89_0 rfl ?_
  obtain ⟨r1, hc2, hf⟩ := lk_b hf
  refine xe_calls1 (as := [xi v0]) (st := []) (h2 := h) (d2 := d - 1) d89_1 ky89 ml76 st254 rfl na254 (Nat.le_of_ble_eq_true rfl) (by omega) (f_Integer_numberOfTrailingZeros_ok (by omega) hc2) ?_
  obtain eR := K0 _ (Option.some.inj hf).symm
  subst eR
  exact xs_iret d89_4 rt89
noncomputable def f_Walk_leastOf (v0 : Int32) (h : xH) : Option Int32 := f_Walk_leastOf_e v0 h
theorem f_Walk_leastOf_ok {g : xG} {l : Launch} {d : Nat} {v0 : Int32} {h : xH} {r : Int32} (hD : 1 ≤ d) (hf : f_Walk_leastOf v0 h = some r) : xC g l d 89 [xi v0] h (some (xi r)) h :=
  xC_of2 (by decide) mx89 (Nat.le_of_ble_eq_true rfl) (f_Walk_leastOf_e_ok hD hf (fun _ e => by rw [e]))
theorem d91_0 : decode (xcode 91) 0 = .ok (.aload_n 0, 1) := by decide +kernel
theorem d91_1 : decode (xcode 91) 1 = .ok (.getfield 20, 3) := by decide +kernel
theorem d91_4 : decode (xcode 91) 4 = .ok (.iconst 5, 1) := by decide +kernel
theorem d91_5 : decode (xcode 91) 5 = .ok (.aload_n 0, 1) := by decide +kernel
theorem d91_6 : decode (xcode 91) 6 = .ok (.getfield 12, 3) := by decide +kernel
theorem d91_9 : decode (xcode 91) 9 = .ok (.getfield 94, 3) := by decide +kernel
theorem d91_12 : decode (xcode 91) 12 = .ok (.invokestatic 97, 3) := by decide +kernel
theorem d91_15 : decode (xcode 91) 15 = .ok (.i2l, 1) := by decide +kernel
theorem d91_16 : decode (xcode 91) 16 = .ok (.lastore, 1) := by decide +kernel
theorem d91_17 : decode (xcode 91) 17 = .ok (.aload_n 0, 1) := by decide +kernel
theorem d91_18 : decode (xcode 91) 18 = .ok (.getfield 20, 3) := by decide +kernel
theorem d91_21 : decode (xcode 91) 21 = .ok (.bipush 6, 2) := by decide +kernel
theorem d91_23 : decode (xcode 91) 23 = .ok (.iload_n 1, 1) := by decide +kernel
theorem d91_24 : decode (xcode 91) 24 = .ok (.invokestatic 97, 3) := by decide +kernel
theorem d91_27 : decode (xcode 91) 27 = .ok (.i2l, 1) := by decide +kernel
theorem d91_28 : decode (xcode 91) 28 = .ok (.lastore, 1) := by decide +kernel
theorem d91_29 : decode (xcode 91) 29 = .ok (.aload_n 0, 1) := by decide +kernel
theorem d91_30 : decode (xcode 91) 30 = .ok (.getfield 20, 3) := by decide +kernel
theorem d91_33 : decode (xcode 91) 33 = .ok (.bipush 7, 2) := by decide +kernel
theorem d91_35 : decode (xcode 91) 35 = .ok (.aload_n 0, 1) := by decide +kernel
theorem d91_36 : decode (xcode 91) 36 = .ok (.getfield 27, 3) := by decide +kernel
theorem d91_39 : decode (xcode 91) 39 = .ok (.getfield 55, 3) := by decide +kernel
theorem d91_42 : decode (xcode 91) 42 = .ok (.aload_n 0, 1) := by decide +kernel
theorem d91_43 : decode (xcode 91) 43 = .ok (.getfield 12, 3) := by decide +kernel
theorem d91_46 : decode (xcode 91) 46 = .ok (.getfield 100, 3) := by decide +kernel
theorem d91_49 : decode (xcode 91) 49 = .ok (.isub, 1) := by decide +kernel
theorem d91_50 : decode (xcode 91) 50 = .ok (.i2l, 1) := by decide +kernel
theorem d91_51 : decode (xcode 91) 51 = .ok (.lastore, 1) := by decide +kernel
theorem d91_52 : decode (xcode 91) 52 = .ok (.aload_n 0, 1) := by decide +kernel
theorem d91_53 : decode (xcode 91) 53 = .ok (.getfield 20, 3) := by decide +kernel
theorem d91_56 : decode (xcode 91) 56 = .ok (.bipush 8, 2) := by decide +kernel
theorem d91_58 : decode (xcode 91) 58 = .ok (.aload_n 0, 1) := by decide +kernel
theorem d91_59 : decode (xcode 91) 59 = .ok (.getfield 12, 3) := by decide +kernel
theorem d91_62 : decode (xcode 91) 62 = .ok (.aload_n 0, 1) := by decide +kernel
theorem d91_63 : decode (xcode 91) 63 = .ok (.getfield 27, 3) := by decide +kernel
theorem d91_66 : decode (xcode 91) 66 = .ok (.getfield 103, 3) := by decide +kernel
theorem d91_69 : decode (xcode 91) 69 = .ok (.invokevirtual 106, 3) := by decide +kernel
theorem d91_72 : decode (xcode 91) 72 = .ok (.i2l, 1) := by decide +kernel
theorem d91_73 : decode (xcode 91) 73 = .ok (.lastore, 1) := by decide +kernel
theorem d91_74 : decode (xcode 91) 74 = .ok (.aload_n 0, 1) := by decide +kernel
theorem d91_75 : decode (xcode 91) 75 = .ok (.getfield 20, 3) := by decide +kernel
theorem d91_78 : decode (xcode 91) 78 = .ok (.bipush 9, 2) := by decide +kernel
theorem d91_80 : decode (xcode 91) 80 = .ok (.aload_n 0, 1) := by decide +kernel
theorem d91_81 : decode (xcode 91) 81 = .ok (.getfield 27, 3) := by decide +kernel
theorem d91_84 : decode (xcode 91) 84 = .ok (.aload_n 0, 1) := by decide +kernel
theorem d91_85 : decode (xcode 91) 85 = .ok (.getfield 12, 3) := by decide +kernel
theorem d91_88 : decode (xcode 91) 88 = .ok (.getfield 109, 3) := by decide +kernel
theorem d91_91 : decode (xcode 91) 91 = .ok (.invokevirtual 112, 3) := by decide +kernel
theorem d91_94 : decode (xcode 91) 94 = .ok (.i2l, 1) := by decide +kernel
theorem d91_95 : decode (xcode 91) 95 = .ok (.lastore, 1) := by decide +kernel
theorem d91_96 : decode (xcode 91) 96 = .ok (.aload_n 0, 1) := by decide +kernel
theorem d91_97 : decode (xcode 91) 97 = .ok (.getfield 20, 3) := by decide +kernel
theorem d91_100 : decode (xcode 91) 100 = .ok (.bipush 10, 2) := by decide +kernel
theorem d91_102 : decode (xcode 91) 102 = .ok (.aload_n 0, 1) := by decide +kernel
theorem d91_103 : decode (xcode 91) 103 = .ok (.getfield 12, 3) := by decide +kernel
theorem d91_106 : decode (xcode 91) 106 = .ok (.getfield 100, 3) := by decide +kernel
theorem d91_109 : decode (xcode 91) 109 = .ok (.i2l, 1) := by decide +kernel
theorem d91_110 : decode (xcode 91) 110 = .ok (.lastore, 1) := by decide +kernel
theorem d91_111 : decode (xcode 91) 111 = .ok (.aload_n 0, 1) := by decide +kernel
theorem d91_112 : decode (xcode 91) 112 = .ok (.getfield 20, 3) := by decide +kernel
theorem d91_115 : decode (xcode 91) 115 = .ok (.bipush 11, 2) := by decide +kernel
theorem d91_117 : decode (xcode 91) 117 = .ok (.aload_n 0, 1) := by decide +kernel
theorem d91_118 : decode (xcode 91) 118 = .ok (.getfield 12, 3) := by decide +kernel
theorem d91_121 : decode (xcode 91) 121 = .ok (.getfield 63, 3) := by decide +kernel
theorem d91_124 : decode (xcode 91) 124 = .ok (.i2l, 1) := by decide +kernel
theorem d91_125 : decode (xcode 91) 125 = .ok (.lastore, 1) := by decide +kernel
theorem d91_126 : decode (xcode 91) 126 = .ok (.return_, 1) := by decide +kernel
noncomputable def f_Walk_tellAll_e (v1 : Int32) (h : xH) : Option xH :=
  (f_Integer_bitCount (h.1 6 2 25) h).bind fun r1 =>
  xlet (xsB h 42 0 (vp_updL (h.2.2.2.2 42 0) ((5 : Int32)).toNatClampNeg ((r1).toInt64))) fun h3 =>
  (f_Integer_bitCount v1 h3).bind fun r4 =>
  xlet (xsB h3 42 0 (vp_updL (h3.2.2.2.2 42 0) ((6 : Int32)).toNatClampNeg ((r4).toInt64))) fun h6 =>
  (h6.2.2.1 10 3 0).bind fun i97 =>
  xlet (xsB h6 42 0 (vp_updL (h6.2.2.2.2 42 0) ((7 : Int32)).toNatClampNeg (((h6.1 8 1 i97) - (h6.1 6 0 25)).toInt64))) fun h8 =>
  (h8.2.2.1 10 3 0).bind fun i99 =>
  (f_State_load 25 (h8.1 8 2 i99) h8).bind fun r10 =>
  xlet (xsB h8 42 0 (vp_updL (h8.2.2.2.2 42 0) ((8 : Int32)).toNatClampNeg ((r10).toInt64))) fun h12 =>
  (h12.2.2.1 10 3 0).bind fun i913 =>
  (f_Told_deepOf i913 (h12.1 6 3 25) h12).bind fun r14 =>
  xlet (xsB h12 42 0 (vp_updL (h12.2.2.2.2 42 0) ((9 : Int32)).toNatClampNeg ((r14).toInt64))) fun h16 =>
  xlet (xsB h16 42 0 (vp_updL (h16.2.2.2.2 42 0) ((10 : Int32)).toNatClampNeg ((h16.1 6 0 25).toInt64))) fun h17 =>
  xlet (xsB h17 42 0 (vp_updL (h17.2.2.2.2 42 0) ((11 : Int32)).toNatClampNeg ((h17.1 6 1 25).toInt64))) fun h18 =>
  some (h18)
set_option maxHeartbeats 4000000 in
set_option maxRecDepth 100000 in
theorem f_Walk_tellAll_e_ok {g : xG} {l : Launch} {d : Nat} {v1 : Int32} {h : xH} {o : xH} {R : Option xV} {H' : xH} (hD : 1 ≤ d) (hf : f_Walk_tellAll_e v1 h = some o) (K0 : ∀ (h1 : xH), o = h1 → R = none ∧ H' = h1) : xEv g l d 91 0 [(0, xr 10 (some 0)), (1, xi v1)] [] h R H' := by
  unfold f_Walk_tellAll_e at hf
  refine xs_aload_n d91_0 rfl ?_
  refine xe_getc (j := 0) d91_1 ky91 fl115 fk10_2 rfl ?_
  refine xs_iconst (v := 5) d91_4 (by decide) ?_
  refine xs_aload_n d91_5 rfl ?_
  refine xe_getc (j := 25) d91_6 ky91 fl111 fk10_0 rfl ?_
  refine xe_geti d91_9 ky91 fl77 fk6_2 ?_
  obtain ⟨r1, hc2, hf⟩ := lk_b hf
  refine xe_calls1 (as := [xi (h.1 6 2 25)]) (st := [xi (5 : Int32), xr 42 (some 0)]) (h2 := h) (d2 := d - 1) d91_12 ky91 ml79 st255 rfl na255 (Nat.le_of_ble_eq_true rfl) (by omega) (f_Integer_bitCount_ok (by omega) hc2) ?_
  refine xs_i2l d91_15 ?_
  obtain ⟨h3, eh3, hf⟩ := lk_let hf
  refine xe_last d91_16 (by decide) ak42 (show xib (5 : Int32) 12 by decide)  eh3 ?_
  refine xs_aload_n d91_17 rfl ?_
  refine xe_getc (j := 0) d91_18 ky91 fl115 fk10_2 rfl ?_
  refine xs_bipush (v := 6) d91_21 (by decide) ?_
  refine xs_iload_n d91_23 rfl ?_
  obtain ⟨r4, hc5, hf⟩ := lk_b hf
  refine xe_calls1 (as := [xi v1]) (st := [xi (6 : Int32), xr 42 (some 0)]) (h2 := h3) (d2 := d - 1) d91_24 ky91 ml79 st255 rfl na255 (Nat.le_of_ble_eq_true rfl) (by omega) (f_Integer_bitCount_ok (by omega) hc5) ?_
  refine xs_i2l d91_27 ?_
  obtain ⟨h6, eh6, hf⟩ := lk_let hf
  refine xe_last d91_28 (by decide) ak42 (show xib (6 : Int32) 12 by decide)  eh6 ?_
  refine xs_aload_n d91_29 rfl ?_
  refine xe_getc (j := 0) d91_30 ky91 fl115 fk10_2 rfl ?_
  refine xs_bipush (v := 7) d91_33 (by decide) ?_
  refine xs_aload_n d91_35 rfl ?_
  refine xe_getd d91_36 ky91 fl116 fk10_3 ?_
  obtain ⟨i97, ei97, hf⟩ := lk_b hf
  rw [ei97]
  refine xe_geti d91_39 ky91 fl22 fk8_1 ?_
  refine xs_aload_n d91_42 rfl ?_
  refine xe_getc (j := 25) d91_43 ky91 fl111 fk10_0 rfl ?_
  refine xe_geti d91_46 ky91 fl69 fk6_0 ?_
  refine xs_isub d91_49 ?_
  refine xs_i2l d91_50 ?_
  obtain ⟨h8, eh8, hf⟩ := lk_let hf
  refine xe_last d91_51 (by decide) ak42 (show xib (7 : Int32) 12 by decide)  eh8 ?_
  refine xs_aload_n d91_52 rfl ?_
  refine xe_getc (j := 0) d91_53 ky91 fl115 fk10_2 rfl ?_
  refine xs_bipush (v := 8) d91_56 (by decide) ?_
  refine xs_aload_n d91_58 rfl ?_
  refine xe_getc (j := 25) d91_59 ky91 fl111 fk10_0 rfl ?_
  refine xs_aload_n d91_62 rfl ?_
  refine xe_getd d91_63 ky91 fl116 fk10_3 ?_
  obtain ⟨i99, ei99, hf⟩ := lk_b hf
  rw [ei99]
  refine xe_geti d91_66 ky91 fl27 fk8_2 ?_
  obtain ⟨r10, hc11, hf⟩ := lk_b hf
  refine xe_callv1 (as := [xi (h8.1 8 2 i99)]) (st := [xi (8 : Int32), xr 42 (some 0)]) (h2 := h8) (d2 := d - 1) d91_69 ky91 ml80 st52 (by decide) cn52 rfl na52 (Nat.le_of_ble_eq_true rfl) (by omega) (f_State_load_ok (by omega) hc11) ?_
  refine xs_i2l d91_72 ?_
  obtain ⟨h12, eh12, hf⟩ := lk_let hf
  refine xe_last d91_73 (by decide) ak42 (show xib (8 : Int32) 12 by decide)  eh12 ?_
  refine xs_aload_n d91_74 rfl ?_
  refine xe_getc (j := 0) d91_75 ky91 fl115 fk10_2 rfl ?_
  refine xs_bipush (v := 9) d91_78 (by decide) ?_
  refine xs_aload_n d91_80 rfl ?_
  refine xe_getd d91_81 ky91 fl116 fk10_3 ?_
  refine xs_aload_n d91_84 rfl ?_
  refine xe_getc (j := 25) d91_85 ky91 fl111 fk10_0 rfl ?_
  refine xe_geti d91_88 ky91 fl80 fk6_3 ?_
  obtain ⟨i913, ei913, hf⟩ := lk_b hf
  rw [ei913]
  obtain ⟨r14, hc15, hf⟩ := lk_b hf
  refine xe_callv1 (as := [xi (h12.1 6 3 25)]) (st := [xi (9 : Int32), xr 42 (some 0)]) (h2 := h12) (d2 := d - 1) d91_91 ky91 ml81 st77 (by decide) cn77 rfl na77 (Nat.le_of_ble_eq_true rfl) (by omega) (f_Told_deepOf_ok (by omega) hc15) ?_
  refine xs_i2l d91_94 ?_
  obtain ⟨h16, eh16, hf⟩ := lk_let hf
  refine xe_last d91_95 (by decide) ak42 (show xib (9 : Int32) 12 by decide)  eh16 ?_
  refine xs_aload_n d91_96 rfl ?_
  refine xe_getc (j := 0) d91_97 ky91 fl115 fk10_2 rfl ?_
  refine xs_bipush (v := 10) d91_100 (by decide) ?_
  refine xs_aload_n d91_102 rfl ?_
  refine xe_getc (j := 25) d91_103 ky91 fl111 fk10_0 rfl ?_
  refine xe_geti d91_106 ky91 fl69 fk6_0 ?_
  refine xs_i2l d91_109 ?_
  obtain ⟨h17, eh17, hf⟩ := lk_let hf
  refine xe_last d91_110 (by decide) ak42 (show xib (10 : Int32) 12 by decide)  eh17 ?_
  refine xs_aload_n d91_111 rfl ?_
  refine xe_getc (j := 0) d91_112 ky91 fl115 fk10_2 rfl ?_
  refine xs_bipush (v := 11) d91_115 (by decide) ?_
  refine xs_aload_n d91_117 rfl ?_
  refine xe_getc (j := 25) d91_118 ky91 fl111 fk10_0 rfl ?_
  refine xe_geti d91_121 ky91 fl72 fk6_1 ?_
  refine xs_i2l d91_124 ?_
  obtain ⟨h18, eh18, hf⟩ := lk_let hf
  refine xe_last d91_125 (by decide) ak42 (show xib (11 : Int32) 12 by decide)  eh18 ?_
  obtain ⟨eR, eH⟩ := K0 _ (Option.some.inj hf).symm
  subst eR; subst eH
  exact xs_vret d91_126 rt91
noncomputable def f_Walk_tellAll (v1 : Int32) (h : xH) : Option xH := f_Walk_tellAll_e v1 h
theorem f_Walk_tellAll_ok {g : xG} {l : Launch} {d : Nat} {v1 : Int32} {h : xH} {h1 : xH} (hD : 1 ≤ d) (hf : f_Walk_tellAll v1 h = some h1) : xC g l d 91 [xr 10 (some 0), xi v1] h none h1 :=
  xC_of2 (by decide) mx91 (Nat.le_of_ble_eq_true rfl) (f_Walk_tellAll_e_ok hD hf (fun _ e => ⟨rfl, e⟩))
theorem d92_0 : decode (xcode 92) 0 = .ok (.aload_n 0, 1) := by decide +kernel
theorem d92_1 : decode (xcode 92) 1 = .ok (.getfield 20, 3) := by decide +kernel
theorem d92_4 : decode (xcode 92) 4 = .ok (.iconst 0, 1) := by decide +kernel
theorem d92_5 : decode (xcode 92) 5 = .ok (.iload_n 1, 1) := by decide +kernel
theorem d92_6 : decode (xcode 92) 6 = .ok (.i2l, 1) := by decide +kernel
theorem d92_7 : decode (xcode 92) 7 = .ok (.lastore, 1) := by decide +kernel
theorem d92_8 : decode (xcode 92) 8 = .ok (.aload_n 0, 1) := by decide +kernel
theorem d92_9 : decode (xcode 92) 9 = .ok (.getfield 20, 3) := by decide +kernel
theorem d92_12 : decode (xcode 92) 12 = .ok (.iconst 1, 1) := by decide +kernel
theorem d92_13 : decode (xcode 92) 13 = .ok (.aload_n 0, 1) := by decide +kernel
theorem d92_14 : decode (xcode 92) 14 = .ok (.getfield 12, 3) := by decide +kernel
theorem d92_17 : decode (xcode 92) 17 = .ok (.getfield 115, 3) := by decide +kernel
theorem d92_20 : decode (xcode 92) 20 = .ok (.iload_n 1, 1) := by decide +kernel
theorem d92_21 : decode (xcode 92) 21 = .ok (.iaload, 1) := by decide +kernel
theorem d92_22 : decode (xcode 92) 22 = .ok (.i2l, 1) := by decide +kernel
theorem d92_23 : decode (xcode 92) 23 = .ok (.lastore, 1) := by decide +kernel
theorem d92_24 : decode (xcode 92) 24 = .ok (.aload_n 0, 1) := by decide +kernel
theorem d92_25 : decode (xcode 92) 25 = .ok (.getfield 20, 3) := by decide +kernel
theorem d92_28 : decode (xcode 92) 28 = .ok (.iconst 2, 1) := by decide +kernel
theorem d92_29 : decode (xcode 92) 29 = .ok (.aload_n 0, 1) := by decide +kernel
theorem d92_30 : decode (xcode 92) 30 = .ok (.getfield 12, 3) := by decide +kernel
theorem d92_33 : decode (xcode 92) 33 = .ok (.getfield 119, 3) := by decide +kernel
theorem d92_36 : decode (xcode 92) 36 = .ok (.iload_n 1, 1) := by decide +kernel
theorem d92_37 : decode (xcode 92) 37 = .ok (.iaload, 1) := by decide +kernel
theorem d92_38 : decode (xcode 92) 38 = .ok (.i2l, 1) := by decide +kernel
theorem d92_39 : decode (xcode 92) 39 = .ok (.lastore, 1) := by decide +kernel
theorem d92_40 : decode (xcode 92) 40 = .ok (.aload_n 0, 1) := by decide +kernel
theorem d92_41 : decode (xcode 92) 41 = .ok (.getfield 20, 3) := by decide +kernel
theorem d92_44 : decode (xcode 92) 44 = .ok (.iconst 3, 1) := by decide +kernel
theorem d92_45 : decode (xcode 92) 45 = .ok (.aload_n 0, 1) := by decide +kernel
theorem d92_46 : decode (xcode 92) 46 = .ok (.getfield 27, 3) := by decide +kernel
theorem d92_49 : decode (xcode 92) 49 = .ok (.getfield 122, 3) := by decide +kernel
theorem d92_52 : decode (xcode 92) 52 = .ok (.iload_n 1, 1) := by decide +kernel
theorem d92_53 : decode (xcode 92) 53 = .ok (.iaload, 1) := by decide +kernel
theorem d92_54 : decode (xcode 92) 54 = .ok (.i2l, 1) := by decide +kernel
theorem d92_55 : decode (xcode 92) 55 = .ok (.lastore, 1) := by decide +kernel
theorem d92_56 : decode (xcode 92) 56 = .ok (.aload_n 0, 1) := by decide +kernel
theorem d92_57 : decode (xcode 92) 57 = .ok (.getfield 20, 3) := by decide +kernel
theorem d92_60 : decode (xcode 92) 60 = .ok (.iconst 4, 1) := by decide +kernel
theorem d92_61 : decode (xcode 92) 61 = .ok (.aload_n 0, 1) := by decide +kernel
theorem d92_62 : decode (xcode 92) 62 = .ok (.getfield 12, 3) := by decide +kernel
theorem d92_65 : decode (xcode 92) 65 = .ok (.iload_n 1, 1) := by decide +kernel
theorem d92_66 : decode (xcode 92) 66 = .ok (.invokevirtual 125, 3) := by decide +kernel
theorem d92_69 : decode (xcode 92) 69 = .ok (.i2l, 1) := by decide +kernel
theorem d92_70 : decode (xcode 92) 70 = .ok (.lastore, 1) := by decide +kernel
theorem d92_71 : decode (xcode 92) 71 = .ok (.return_, 1) := by decide +kernel
noncomputable def f_Walk_tellOf_e (v1 : Int32) (h : xH) : Option xH :=
  xlet (xsB h 42 0 (vp_updL (h.2.2.2.2 42 0) ((0 : Int32)).toNatClampNeg ((v1).toInt64))) fun h1 =>
  if xib v1 8 then (
  xlet (xsB h1 42 0 (vp_updL (h1.2.2.2.2 42 0) ((1 : Int32)).toNatClampNeg ((h1.2.2.2.1 31 25 (v1).toNatClampNeg).toInt64))) fun h3 =>
  if xib v1 8 then (
  xlet (xsB h3 42 0 (vp_updL (h3.2.2.2.2 42 0) ((2 : Int32)).toNatClampNeg ((h3.2.2.2.1 32 25 (v1).toNatClampNeg).toInt64))) fun h5 =>
  (h5.2.2.1 10 3 0).bind fun i96 =>
  if xib v1 8 then (
  xlet (xsB h5 42 0 (vp_updL (h5.2.2.2.2 42 0) ((3 : Int32)).toNatClampNeg ((h5.2.2.2.1 39 i96 (v1).toNatClampNeg).toInt64))) fun h8 =>
  (f_State_overOf 25 v1 h8).bind fun r9 =>
  xlet (xsB h8 42 0 (vp_updL (h8.2.2.2.2 42 0) ((4 : Int32)).toNatClampNeg ((r9).toInt64))) fun h11 =>
  some (h11)) else none) else none) else none
set_option maxHeartbeats 4000000 in
set_option maxRecDepth 100000 in
theorem f_Walk_tellOf_e_ok {g : xG} {l : Launch} {d : Nat} {v1 : Int32} {h : xH} {o : xH} {R : Option xV} {H' : xH} (hD : 1 ≤ d) (hf : f_Walk_tellOf_e v1 h = some o) (K0 : ∀ (h1 : xH), o = h1 → R = none ∧ H' = h1) : xEv g l d 92 0 [(0, xr 10 (some 0)), (1, xi v1)] [] h R H' := by
  unfold f_Walk_tellOf_e at hf
  refine xs_aload_n d92_0 rfl ?_
  refine xe_getc (j := 0) d92_1 ky92 fl115 fk10_2 rfl ?_
  refine xs_iconst (v := 0) d92_4 (by decide) ?_
  refine xs_iload_n d92_5 rfl ?_
  refine xs_i2l d92_6 ?_
  obtain ⟨h1, eh1, hf⟩ := lk_let hf
  refine xe_last d92_7 (by decide) ak42 (show xib (0 : Int32) 12 by decide)  eh1 ?_
  refine xs_aload_n d92_8 rfl ?_
  refine xe_getc (j := 0) d92_9 ky92 fl115 fk10_2 rfl ?_
  refine xs_iconst (v := 1) d92_12 (by decide) ?_
  refine xs_aload_n d92_13 rfl ?_
  refine xe_getc (j := 25) d92_14 ky92 fl111 fk10_0 rfl ?_
  refine xe_getc (j := 25) d92_17 ky92 fl90 fk6_6 rfl ?_
  refine xs_iload_n d92_20 rfl ?_
  obtain ⟨hin2, hf⟩ := lk_g hf
  refine xe_iald d92_21 (by decide) ak31 hin2 ?_
  refine xs_i2l d92_22 ?_
  obtain ⟨h3, eh3, hf⟩ := lk_let hf
  refine xe_last d92_23 (by decide) ak42 (show xib (1 : Int32) 12 by decide)  eh3 ?_
  refine xs_aload_n d92_24 rfl ?_
  refine xe_getc (j := 0) d92_25 ky92 fl115 fk10_2 rfl ?_
  refine xs_iconst (v := 2) d92_28 (by decide) ?_
  refine xs_aload_n d92_29 rfl ?_
  refine xe_getc (j := 25) d92_30 ky92 fl111 fk10_0 rfl ?_
  refine xe_getc (j := 25) d92_33 ky92 fl94 fk6_7 rfl ?_
  refine xs_iload_n d92_36 rfl ?_
  obtain ⟨hin4, hf⟩ := lk_g hf
  refine xe_iald d92_37 (by decide) ak32 hin4 ?_
  refine xs_i2l d92_38 ?_
  obtain ⟨h5, eh5, hf⟩ := lk_let hf
  refine xe_last d92_39 (by decide) ak42 (show xib (2 : Int32) 12 by decide)  eh5 ?_
  refine xs_aload_n d92_40 rfl ?_
  refine xe_getc (j := 0) d92_41 ky92 fl115 fk10_2 rfl ?_
  refine xs_iconst (v := 3) d92_44 (by decide) ?_
  refine xs_aload_n d92_45 rfl ?_
  refine xe_getd d92_46 ky92 fl116 fk10_3 ?_
  obtain ⟨i96, ei96, hf⟩ := lk_b hf
  rw [ei96]
  refine xe_getc (j := i96) d92_49 ky92 fl47 fk8_7 (by omega) ?_
  refine xs_iload_n d92_52 rfl ?_
  obtain ⟨hin7, hf⟩ := lk_g hf
  refine xe_iald d92_53 (by decide) ak39 hin7 ?_
  refine xs_i2l d92_54 ?_
  obtain ⟨h8, eh8, hf⟩ := lk_let hf
  refine xe_last d92_55 (by decide) ak42 (show xib (3 : Int32) 12 by decide)  eh8 ?_
  refine xs_aload_n d92_56 rfl ?_
  refine xe_getc (j := 0) d92_57 ky92 fl115 fk10_2 rfl ?_
  refine xs_iconst (v := 4) d92_60 (by decide) ?_
  refine xs_aload_n d92_61 rfl ?_
  refine xe_getc (j := 25) d92_62 ky92 fl111 fk10_0 rfl ?_
  refine xs_iload_n d92_65 rfl ?_
  obtain ⟨r9, hc10, hf⟩ := lk_b hf
  refine xe_callv1 (as := [xi v1]) (st := [xi (4 : Int32), xr 42 (some 0)]) (h2 := h8) (d2 := d - 1) d92_66 ky92 ml83 st53 (by decide) cn53 rfl na53 (Nat.le_of_ble_eq_true rfl) (by omega) (f_State_overOf_ok (by omega) hc10) ?_
  refine xs_i2l d92_69 ?_
  obtain ⟨h11, eh11, hf⟩ := lk_let hf
  refine xe_last d92_70 (by decide) ak42 (show xib (4 : Int32) 12 by decide)  eh11 ?_
  obtain ⟨eR, eH⟩ := K0 _ (Option.some.inj hf).symm
  subst eR; subst eH
  exact xs_vret d92_71 rt92
noncomputable def f_Walk_tellOf (v1 : Int32) (h : xH) : Option xH := f_Walk_tellOf_e v1 h
theorem f_Walk_tellOf_ok {g : xG} {l : Launch} {d : Nat} {v1 : Int32} {h : xH} {h1 : xH} (hD : 1 ≤ d) (hf : f_Walk_tellOf v1 h = some h1) : xC g l d 92 [xr 10 (some 0), xi v1] h none h1 :=
  xC_of2 (by decide) mx92 (Nat.le_of_ble_eq_true rfl) (f_Walk_tellOf_e_ok hD hf (fun _ e => ⟨rfl, e⟩))
theorem d11_0 : decode (xcode 11) 0 = .ok (.iload_n 1, 1) := by decide +kernel
theorem d11_1 : decode (xcode 11) 1 = .ok (.ifCond .lt 15, 3) := by decide +kernel
theorem d11_4 : decode (xcode 11) 4 = .ok (.iload_n 1, 1) := by decide +kernel
theorem d11_5 : decode (xcode 11) 5 = .ok (.aload_n 0, 1) := by decide +kernel
theorem d11_6 : decode (xcode 11) 6 = .ok (.arraylength, 1) := by decide +kernel
theorem d11_7 : decode (xcode 11) 7 = .ok (.if_icmp .ge 9, 3) := by decide +kernel
theorem d11_10 : decode (xcode 11) 10 = .ok (.aload_n 0, 1) := by decide +kernel
theorem d11_11 : decode (xcode 11) 11 = .ok (.iload_n 1, 1) := by decide +kernel
theorem d11_12 : decode (xcode 11) 12 = .ok (.laload, 1) := by decide +kernel
theorem d11_13 : decode (xcode 11) 13 = .ok (.goto 4, 3) := by decide +kernel
theorem d11_16 : decode (xcode 11) 16 = .ok (.lconst 0, 1) := by decide +kernel
theorem d11_17 : decode (xcode 11) 17 = .ok (.lreturn, 1) := by decide +kernel
noncomputable def f_Rule_wordAmong_42_e (v1 : Int32) (h : xH) : Option Int64 :=
  if v1 < (0 : Int32) then (
  some ((0 : Int64))) else (
  if (12 : Int32) ≤ v1 then (
  some ((0 : Int64))) else (
  if xib v1 12 then (
  some (h.2.2.2.2 42 0 (v1).toNatClampNeg)) else none))
set_option maxHeartbeats 4000000 in
set_option maxRecDepth 100000 in
theorem f_Rule_wordAmong_42_e_ok {g : xG} {l : Launch} {d : Nat} {v1 : Int32} {h : xH} {o : Int64} {R : Option xV} (hD : 0 ≤ d) (hf : f_Rule_wordAmong_42_e v1 h = some o) (K0 : ∀ (a : Int64), o = a → R = some (xl a)) : xEv g l d 11 0 [(0, xr 42 (some 0)), (1, xi v1)] [] h R h := by
  unfold f_Rule_wordAmong_42_e at hf
  refine xs_iload_n d11_0 rfl ?_
  rcases lk_if hf with ⟨hc1, hf⟩ | ⟨hc1, hf⟩
  · refine xs_if_lt (tgt := 16) d11_1 (by decide) (fun _ => ?_) (fun hn => absurd hc1 hn)
    refine xs_lconst (v := 0) d11_16 (by decide) ?_
    obtain eR := K0 _ (Option.some.inj hf).symm
    subst eR
    exact xs_lret d11_17 rt11
  · refine xs_if_lt (tgt := 16) d11_1 (by decide) (fun hp => absurd hp hc1) (fun _ => ?_)
    refine xs_iload_n d11_4 rfl ?_
    refine xs_aload_n d11_5 rfl ?_
    refine xe_alen (v := 12) d11_6 (by decide) ak42 (by decide) (by decide) ?_
    rcases lk_if hf with ⟨hc2, hf⟩ | ⟨hc2, hf⟩
    · refine xs_icmp_ge (tgt := 16) d11_7 (by decide) (fun _ => ?_) (fun hn => absurd hc2 hn)
      refine xs_lconst (v := 0) d11_16 (by decide) ?_
      obtain eR := K0 _ (Option.some.inj hf).symm
      subst eR
      exact xs_lret d11_17 rt11
    · refine xs_icmp_ge (tgt := 16) d11_7 (by decide) (fun hp => absurd hp hc2) (fun _ => ?_)
      refine xs_aload_n d11_10 rfl ?_
      refine xs_iload_n d11_11 rfl ?_
      obtain ⟨hin3, hf⟩ := lk_g hf
      refine xe_lald d11_12 (by decide) ak42 hin3 ?_
      refine xs_goto (tgt := 17) d11_13 (by decide) ?_
      obtain eR := K0 _ (Option.some.inj hf).symm
      subst eR
      exact xs_lret d11_17 rt11
noncomputable def f_Rule_wordAmong_42 (v1 : Int32) (h : xH) : Option Int64 := f_Rule_wordAmong_42_e v1 h
theorem f_Rule_wordAmong_42_ok {g : xG} {l : Launch} {d : Nat} {v1 : Int32} {h : xH} {r : Int64} (hD : 0 ≤ d) (hf : f_Rule_wordAmong_42 v1 h = some r) : xC g l d 11 [xr 42 (some 0), xi v1] h (some (xl r)) h :=
  xC_of2 (by decide) mx11 (Nat.le_of_ble_eq_true rfl) (f_Rule_wordAmong_42_e_ok hD hf (fun _ e => by rw [e]))
theorem d10_0 : decode (xcode 10) 0 = .ok (.iconst 0, 1) := by decide +kernel
theorem d10_1 : decode (xcode 10) 1 = .ok (.istore_n 2, 1) := by decide +kernel
theorem d10_2 : decode (xcode 10) 2 = .ok (.iconst 0, 1) := by decide +kernel
theorem d10_3 : decode (xcode 10) 3 = .ok (.istore_n 3, 1) := by decide +kernel
theorem d10_4 : decode (xcode 10) 4 = .ok (.iload_n 3, 1) := by decide +kernel
theorem d10_5 : decode (xcode 10) 5 = .ok (.aload_n 0, 1) := by decide +kernel
theorem d10_6 : decode (xcode 10) 6 = .ok (.getfield 19, 3) := by decide +kernel
theorem d10_9 : decode (xcode 10) 9 = .ok (.if_icmp .ge 212, 3) := by decide +kernel
theorem d10_12 : decode (xcode 10) 12 = .ok (.iload_n 3, 1) := by decide +kernel
theorem d10_13 : decode (xcode 10) 13 = .ok (.aload_n 0, 1) := by decide +kernel
theorem d10_14 : decode (xcode 10) 14 = .ok (.getfield 9, 3) := by decide +kernel
theorem d10_17 : decode (xcode 10) 17 = .ok (.arraylength, 1) := by decide +kernel
theorem d10_18 : decode (xcode 10) 18 = .ok (.if_icmp .ge 203, 3) := by decide +kernel
theorem d10_21 : decode (xcode 10) 21 = .ok (.aload_n 0, 1) := by decide +kernel
theorem d10_22 : decode (xcode 10) 22 = .ok (.getfield 9, 3) := by decide +kernel
theorem d10_25 : decode (xcode 10) 25 = .ok (.iload_n 3, 1) := by decide +kernel
theorem d10_26 : decode (xcode 10) 26 = .ok (.iaload, 1) := by decide +kernel
theorem d10_27 : decode (xcode 10) 27 = .ok (.istore 4, 2) := by decide +kernel
theorem d10_29 : decode (xcode 10) 29 = .ok (.iload 4, 2) := by decide +kernel
theorem d10_31 : decode (xcode 10) 31 = .ok (.bipush 100, 2) := by decide +kernel
theorem d10_33 : decode (xcode 10) 33 = .ok (.if_icmp .ge 10, 3) := by decide +kernel
theorem d10_36 : decode (xcode 10) 36 = .ok (.iload 4, 2) := by decide +kernel
theorem d10_38 : decode (xcode 10) 38 = .ok (.bipush 12, 2) := by decide +kernel
theorem d10_40 : decode (xcode 10) 40 = .ok (.if_icmp .ge 43, 3) := by decide +kernel
theorem d10_43 : decode (xcode 10) 43 = .ok (.iload_n 2, 1) := by decide +kernel
theorem d10_44 : decode (xcode 10) 44 = .ok (.bipush 64, 2) := by decide +kernel
theorem d10_46 : decode (xcode 10) 46 = .ok (.if_icmp .ge 169, 3) := by decide +kernel
theorem d10_49 : decode (xcode 10) 49 = .ok (.aload_n 0, 1) := by decide +kernel
theorem d10_50 : decode (xcode 10) 50 = .ok (.getfield 15, 3) := by decide +kernel
theorem d10_53 : decode (xcode 10) 53 = .ok (.iload_n 2, 1) := by decide +kernel
theorem d10_54 : decode (xcode 10) 54 = .ok (.iload 4, 2) := by decide +kernel
theorem d10_56 : decode (xcode 10) 56 = .ok (.bipush 100, 2) := by decide +kernel
theorem d10_58 : decode (xcode 10) 58 = .ok (.if_icmp .lt 12, 3) := by decide +kernel
theorem d10_61 : decode (xcode 10) 61 = .ok (.iload 4, 2) := by decide +kernel
theorem d10_63 : decode (xcode 10) 63 = .ok (.bipush 100, 2) := by decide +kernel
theorem d10_65 : decode (xcode 10) 65 = .ok (.isub, 1) := by decide +kernel
theorem d10_66 : decode (xcode 10) 66 = .ok (.i2l, 1) := by decide +kernel
theorem d10_67 : decode (xcode 10) 67 = .ok (.goto 9, 3) := by decide +kernel
theorem d10_70 : decode (xcode 10) 70 = .ok (.aload_n 1, 1) := by decide +kernel
theorem d10_71 : decode (xcode 10) 71 = .ok (.iload 4, 2) := by decide +kernel
theorem d10_73 : decode (xcode 10) 73 = .ok (.invokestatic 27, 3) := by decide +kernel
theorem d10_76 : decode (xcode 10) 76 = .ok (.lastore, 1) := by decide +kernel
theorem d10_77 : decode (xcode 10) 77 = .ok (.iinc 2 1, 3) := by decide +kernel
theorem d10_80 : decode (xcode 10) 80 = .ok (.goto 135, 3) := by decide +kernel
theorem d10_83 : decode (xcode 10) 83 = .ok (.iload 4, 2) := by decide +kernel
theorem d10_85 : decode (xcode 10) 85 = .ok (.bipush 26, 2) := by decide +kernel
theorem d10_87 : decode (xcode 10) 87 = .ok (.if_icmp .ne 21, 3) := by decide +kernel
theorem d10_90 : decode (xcode 10) 90 = .ok (.iload_n 2, 1) := by decide +kernel
theorem d10_91 : decode (xcode 10) 91 = .ok (.iconst 1, 1) := by decide +kernel
theorem d10_92 : decode (xcode 10) 92 = .ok (.if_icmp .lt 14, 3) := by decide +kernel
theorem d10_95 : decode (xcode 10) 95 = .ok (.aload_n 0, 1) := by decide +kernel
theorem d10_96 : decode (xcode 10) 96 = .ok (.getfield 15, 3) := by decide +kernel
theorem d10_99 : decode (xcode 10) 99 = .ok (.iload_n 2, 1) := by decide +kernel
theorem d10_100 : decode (xcode 10) 100 = .ok (.iconst 1, 1) := by decide +kernel
theorem d10_101 : decode (xcode 10) 101 = .ok (.isub, 1) := by decide +kernel
theorem d10_102 : decode (xcode 10) 102 = .ok (.laload, 1) := by decide +kernel
theorem d10_103 : decode (xcode 10) 103 = .ok (.goto 4, 3) := by decide +kernel
theorem d10_106 : decode (xcode 10) 106 = .ok (.lconst 0, 1) := by decide +kernel
theorem d10_107 : decode (xcode 10) 107 = .ok (.lreturn, 1) := by decide +kernel
theorem d10_108 : decode (xcode 10) 108 = .ok (.iload 4, 2) := by decide +kernel
theorem d10_110 : decode (xcode 10) 110 = .ok (.bipush 25, 2) := by decide +kernel
theorem d10_112 : decode (xcode 10) 112 = .ok (.if_icmp .ne 35, 3) := by decide +kernel
theorem d10_115 : decode (xcode 10) 115 = .ok (.iload_n 2, 1) := by decide +kernel
theorem d10_116 : decode (xcode 10) 116 = .ok (.iconst 2, 1) := by decide +kernel
theorem d10_117 : decode (xcode 10) 117 = .ok (.if_icmp .lt 25, 3) := by decide +kernel
theorem d10_120 : decode (xcode 10) 120 = .ok (.aload_n 0, 1) := by decide +kernel
theorem d10_121 : decode (xcode 10) 121 = .ok (.getfield 15, 3) := by decide +kernel
theorem d10_124 : decode (xcode 10) 124 = .ok (.iload_n 2, 1) := by decide +kernel
theorem d10_125 : decode (xcode 10) 125 = .ok (.iconst 1, 1) := by decide +kernel
theorem d10_126 : decode (xcode 10) 126 = .ok (.isub, 1) := by decide +kernel
theorem d10_127 : decode (xcode 10) 127 = .ok (.laload, 1) := by decide +kernel
theorem d10_128 : decode (xcode 10) 128 = .ok (.lconst 0, 1) := by decide +kernel
theorem d10_129 : decode (xcode 10) 129 = .ok (.lcmp, 1) := by decide +kernel
theorem d10_130 : decode (xcode 10) 130 = .ok (.ifCond .eq 12, 3) := by decide +kernel
theorem d10_133 : decode (xcode 10) 133 = .ok (.aload_n 0, 1) := by decide +kernel
theorem d10_134 : decode (xcode 10) 134 = .ok (.getfield 15, 3) := by decide +kernel
theorem d10_137 : decode (xcode 10) 137 = .ok (.iload_n 2, 1) := by decide +kernel
theorem d10_138 : decode (xcode 10) 138 = .ok (.iconst 2, 1) := by decide +kernel
theorem d10_139 : decode (xcode 10) 139 = .ok (.isub, 1) := by decide +kernel
theorem d10_140 : decode (xcode 10) 140 = .ok (.laload, 1) := by decide +kernel
theorem d10_141 : decode (xcode 10) 141 = .ok (.lreturn, 1) := by decide +kernel
theorem d10_142 : decode (xcode 10) 142 = .ok (.iconst 0, 1) := by decide +kernel
theorem d10_143 : decode (xcode 10) 143 = .ok (.istore_n 2, 1) := by decide +kernel
theorem d10_144 : decode (xcode 10) 144 = .ok (.goto 71, 3) := by decide +kernel
theorem d10_147 : decode (xcode 10) 147 = .ok (.iload 4, 2) := by decide +kernel
theorem d10_149 : decode (xcode 10) 149 = .ok (.bipush 24, 2) := by decide +kernel
theorem d10_151 : decode (xcode 10) 151 = .ok (.if_icmp .ne 29, 3) := by decide +kernel
theorem d10_154 : decode (xcode 10) 154 = .ok (.iload_n 2, 1) := by decide +kernel
theorem d10_155 : decode (xcode 10) 155 = .ok (.iconst 1, 1) := by decide +kernel
theorem d10_156 : decode (xcode 10) 156 = .ok (.if_icmp .lt 59, 3) := by decide +kernel
theorem d10_159 : decode (xcode 10) 159 = .ok (.aload_n 0, 1) := by decide +kernel
theorem d10_160 : decode (xcode 10) 160 = .ok (.getfield 15, 3) := by decide +kernel
theorem d10_163 : decode (xcode 10) 163 = .ok (.iload_n 2, 1) := by decide +kernel
theorem d10_164 : decode (xcode 10) 164 = .ok (.iconst 1, 1) := by decide +kernel
theorem d10_165 : decode (xcode 10) 165 = .ok (.isub, 1) := by decide +kernel
theorem d10_166 : decode (xcode 10) 166 = .ok (.lconst 1, 1) := by decide +kernel
theorem d10_167 : decode (xcode 10) 167 = .ok (.aload_n 0, 1) := by decide +kernel
theorem d10_168 : decode (xcode 10) 168 = .ok (.getfield 15, 3) := by decide +kernel
theorem d10_171 : decode (xcode 10) 171 = .ok (.iload_n 2, 1) := by decide +kernel
theorem d10_172 : decode (xcode 10) 172 = .ok (.iconst 1, 1) := by decide +kernel
theorem d10_173 : decode (xcode 10) 173 = .ok (.isub, 1) := by decide +kernel
theorem d10_174 : decode (xcode 10) 174 = .ok (.laload, 1) := by decide +kernel
theorem d10_175 : decode (xcode 10) 175 = .ok (.lsub, 1) := by decide +kernel
theorem d10_176 : decode (xcode 10) 176 = .ok (.lastore, 1) := by decide +kernel
theorem d10_177 : decode (xcode 10) 177 = .ok (.goto 38, 3) := by decide +kernel
theorem d10_180 : decode (xcode 10) 180 = .ok (.iload_n 2, 1) := by decide +kernel
theorem d10_181 : decode (xcode 10) 181 = .ok (.iconst 2, 1) := by decide +kernel
theorem d10_182 : decode (xcode 10) 182 = .ok (.if_icmp .lt 33, 3) := by decide +kernel
theorem d10_185 : decode (xcode 10) 185 = .ok (.iinc 2 (-1), 3) := by decide +kernel
theorem d10_188 : decode (xcode 10) 188 = .ok (.aload_n 0, 1) := by decide +kernel
theorem d10_189 : decode (xcode 10) 189 = .ok (.getfield 15, 3) := by decide +kernel
theorem d10_192 : decode (xcode 10) 192 = .ok (.iload_n 2, 1) := by decide +kernel
theorem d10_193 : decode (xcode 10) 193 = .ok (.iconst 1, 1) := by decide +kernel
theorem d10_194 : decode (xcode 10) 194 = .ok (.isub, 1) := by decide +kernel
theorem d10_195 : decode (xcode 10) 195 = .ok (.iload 4, 2) := by decide +kernel
theorem d10_197 : decode (xcode 10) 197 = .ok (.aload_n 0, 1) := by decide +kernel
theorem d10_198 : decode (xcode 10) 198 = .ok (.getfield 15, 3) := by decide +kernel
theorem d10_201 : decode (xcode 10) 201 = .ok (.iload_n 2, 1) := by decide +kernel
theorem d10_202 : decode (xcode 10) 202 = .ok (.iconst 1, 1) := by decide +kernel
theorem d10_203 : decode (xcode 10) 203 = .ok (.isub, 1) := by decide +kernel
theorem d10_204 : decode (xcode 10) 204 = .ok (.laload, 1) := by decide +kernel
theorem d10_205 : decode (xcode 10) 205 = .ok (.aload_n 0, 1) := by decide +kernel
theorem d10_206 : decode (xcode 10) 206 = .ok (.getfield 15, 3) := by decide +kernel
theorem d10_209 : decode (xcode 10) 209 = .ok (.iload_n 2, 1) := by decide +kernel
theorem d10_210 : decode (xcode 10) 210 = .ok (.laload, 1) := by decide +kernel
theorem d10_211 : decode (xcode 10) 211 = .ok (.invokestatic 31, 3) := by decide +kernel
theorem d10_214 : decode (xcode 10) 214 = .ok (.lastore, 1) := by decide +kernel
theorem d10_215 : decode (xcode 10) 215 = .ok (.iinc 3 1, 3) := by decide +kernel
theorem d10_218 : decode (xcode 10) 218 = .ok (.goto (-214), 3) := by decide +kernel
theorem d10_221 : decode (xcode 10) 221 = .ok (.lconst 0, 1) := by decide +kernel
theorem d10_222 : decode (xcode 10) 222 = .ok (.lreturn, 1) := by decide +kernel
noncomputable def f_Rule_worth_42_b215 (i0 : Nat) (v2 : Int32) (v3 : Int32) (h : xH) : Option ((Int32 × Int32 × xH) ⊕ (Int64 × xH)) :=
  xlet (v3 + (1 : Int32)) fun v3_7 =>
  some (Sum.inl (v2, v3_7, h))
set_option maxHeartbeats 4000000 in
set_option maxRecDepth 100000 in
theorem f_Rule_worth_42_b215_ok {g : xG} {l : Launch} {d : Nat} {i0 : Nat} {v2 : Int32} {v3 : Int32} {h : xH} {o : ((Int32 × Int32 × xH) ⊕ (Int64 × xH))} {R : Option xV} {H' : xH} (hD : 1 ≤ d) (hf : f_Rule_worth_42_b215 i0 v2 v3 h = some o) (K1 : ∀ (w2 : Int32) (w3 : Int32) (h1 : xH), o = Sum.inl (w2, w3, h1) → xEv g l d 10 4 [(0, xr 2 (some i0)), (1, xr 42 (some 0)), (2, xi w2), (3, xi w3)] [] h1 R H') (K0 : ∀ (a : Int64) (h1 : xH), o = Sum.inr ((a, h1)) → R = some (xl a) ∧ H' = h1) : xEv g l d 10 215 [(0, xr 2 (some i0)), (1, xr 42 (some 0)), (2, xi v2), (3, xi v3)] [] h R H' := by
  unfold f_Rule_worth_42_b215 at hf
  obtain ⟨v3_7, ev3_7, hf⟩ := lk_let hf
  refine xe_iinc (v := v3_7) (b := 1) (ls2 := [(0, xr 2 (some i0)), (1, xr 42 (some 0)), (2, xi v2), (3, xi v3_7)]) d10_215 mx10 (by decide) rfl (by decide) ev3_7 rfl ?_
  refine xs_goto (tgt := 4) d10_218 (by decide) ?_
  exact K1 _ _ _ (Option.some.inj hf).symm
noncomputable def f_Rule_worth_42_b76 (i0 : Nat) (v2 : Int32) (v3 : Int32) (t0 : Int64) (t1 : Int32) (h : xH) : Option ((Int32 × Int32 × xH) ⊕ (Int64 × xH)) :=
  if xib t1 64 then (
  xlet (xsB h 19 i0 (vp_updL (h.2.2.2.2 19 i0) (t1).toNatClampNeg t0)) fun h12 =>
  xlet (v2 + (1 : Int32)) fun v2_13 =>
  f_Rule_worth_42_b215 i0 v2_13 v3 h12) else none
set_option maxHeartbeats 4000000 in
set_option maxRecDepth 100000 in
theorem f_Rule_worth_42_b76_ok {g : xG} {l : Launch} {d : Nat} {i0 : Nat} {v2 : Int32} {v3 : Int32} {t0 : Int64} {t1 : Int32} {h : xH} {o : ((Int32 × Int32 × xH) ⊕ (Int64 × xH))} {R : Option xV} {H' : xH} (hD : 1 ≤ d) (hf : f_Rule_worth_42_b76 i0 v2 v3 t0 t1 h = some o) (K1 : ∀ (w2 : Int32) (w3 : Int32) (h1 : xH), o = Sum.inl (w2, w3, h1) → xEv g l d 10 4 [(0, xr 2 (some i0)), (1, xr 42 (some 0)), (2, xi w2), (3, xi w3)] [] h1 R H') (K0 : ∀ (a : Int64) (h1 : xH), o = Sum.inr ((a, h1)) → R = some (xl a) ∧ H' = h1) : xEv g l d 10 76 [(0, xr 2 (some i0)), (1, xr 42 (some 0)), (2, xi v2), (3, xi v3)] [xl t0, xi t1, xr 19 (some i0)] h R H' := by
  unfold f_Rule_worth_42_b76 at hf
  obtain ⟨hin11, hf⟩ := lk_g hf
  obtain ⟨h12, eh12, hf⟩ := lk_let hf
  refine xe_last d10_76 (by decide) ak19 hin11  eh12 ?_
  obtain ⟨v2_13, ev2_13, hf⟩ := lk_let hf
  refine xe_iinc (v := v2_13) (b := 1) (ls2 := [(0, xr 2 (some i0)), (1, xr 42 (some 0)), (2, xi v2_13), (3, xi v3)]) d10_77 mx10 (by decide) rfl (by decide) ev2_13 rfl ?_
  refine xs_goto (tgt := 215) d10_80 (by decide) ?_
  exact f_Rule_worth_42_b215_ok hD hf K1 K0
noncomputable def f_Rule_worth_42_b43 (i0 : Nat) (v2 : Int32) (v3 : Int32) (v4 : Int32) (h : xH) : Option ((Int32 × Int32 × xH) ⊕ (Int64 × xH)) :=
  if (64 : Int32) ≤ v2 then (
  f_Rule_worth_42_b215 i0 v2 v3 h) else (
  if v4 < (100 : Int32) then (
  (f_Rule_wordAmong_42 v4 h).bind fun r9 =>
  f_Rule_worth_42_b76 i0 v2 v3 r9 v2 h) else (
  f_Rule_worth_42_b76 i0 v2 v3 ((v4 - (100 : Int32)).toInt64) v2 h))
set_option maxHeartbeats 4000000 in
set_option maxRecDepth 100000 in
theorem f_Rule_worth_42_b43_ok {g : xG} {l : Launch} {d : Nat} {i0 : Nat} {v2 : Int32} {v3 : Int32} {v4 : Int32} {h : xH} {o : ((Int32 × Int32 × xH) ⊕ (Int64 × xH))} {R : Option xV} {H' : xH} (hD : 1 ≤ d) (hf : f_Rule_worth_42_b43 i0 v2 v3 v4 h = some o) (K1 : ∀ (w2 : Int32) (w3 : Int32) (h1 : xH), o = Sum.inl (w2, w3, h1) → xEv g l d 10 4 [(0, xr 2 (some i0)), (1, xr 42 (some 0)), (2, xi w2), (3, xi w3)] [] h1 R H') (K0 : ∀ (a : Int64) (h1 : xH), o = Sum.inr ((a, h1)) → R = some (xl a) ∧ H' = h1) : xEv g l d 10 43 [(0, xr 2 (some i0)), (1, xr 42 (some 0)), (2, xi v2), (3, xi v3), (4, xi v4)] [] h R H' := by
  unfold f_Rule_worth_42_b43 at hf
  refine xs_iload_n d10_43 rfl ?_
  refine xs_bipush (v := 64) d10_44 (by decide) ?_
  rcases lk_if hf with ⟨hc6, hf⟩ | ⟨hc6, hf⟩
  · refine xs_icmp_ge (tgt := 215) d10_46 (by decide) (fun _ => ?_) (fun hn => absurd hc6 hn)
    refine xs_pick [0, 1, 2, 3] rfl ?_
    exact f_Rule_worth_42_b215_ok hD hf K1 K0
  · refine xs_icmp_ge (tgt := 215) d10_46 (by decide) (fun hp => absurd hp hc6) (fun _ => ?_)
    refine xs_aload_n d10_49 rfl ?_
    refine xe_getc (j := i0) d10_50 ky10 fl63 fk2_1 (by omega) ?_
    refine xs_iload_n d10_53 rfl ?_
    refine xs_iload d10_54 rfl ?_
    refine xs_bipush (v := 100) d10_56 (by decide) ?_
    rcases lk_if hf with ⟨hc8, hf⟩ | ⟨hc8, hf⟩
    · refine xs_icmp_lt (tgt := 70) d10_58 (by decide) (fun _ => ?_) (fun hn => absurd hc8 hn)
      refine xs_aload_n d10_70 rfl ?_
      refine xs_iload d10_71 rfl ?_
      obtain ⟨r9, hc10, hf⟩ := lk_b hf
      refine xe_calls1 (as := [xr 42 (some 0), xi v4]) (st := [xi v2, xr 19 (some i0)]) (h2 := h) (d2 := d - 1) d10_73 ky10 ml85 st11 rfl na11 (Nat.le_of_ble_eq_true rfl) (by omega) (f_Rule_wordAmong_42_ok (by omega) hc10) ?_
      refine xs_pick [0, 1, 2, 3] rfl ?_
      exact f_Rule_worth_42_b76_ok hD hf K1 K0
    · refine xs_icmp_lt (tgt := 70) d10_58 (by decide) (fun hp => absurd hp hc8) (fun _ => ?_)
      refine xs_iload d10_61 rfl ?_
      refine xs_bipush (v := 100) d10_63 (by decide) ?_
      refine xs_isub d10_65 ?_
      refine xs_i2l d10_66 ?_
      refine xs_goto (tgt := 76) d10_67 (by decide) ?_
      refine xs_pick [0, 1, 2, 3] rfl ?_
      exact f_Rule_worth_42_b76_ok hD hf K1 K0
noncomputable def f_Rule_worth_42_b90 (i0 : Nat) (v2 : Int32) (h : xH) : Option (Int64 × xH) :=
  if v2 < (1 : Int32) then (
  some (((0 : Int64), h))) else (
  if xib (v2 - (1 : Int32)) 64 then (
  some ((h.2.2.2.2 19 i0 (v2 - (1 : Int32)).toNatClampNeg, h))) else none)
set_option maxHeartbeats 4000000 in
set_option maxRecDepth 100000 in
theorem f_Rule_worth_42_b90_ok {g : xG} {l : Launch} {d : Nat} {i0 : Nat} {v2 : Int32} {h : xH} {o : (Int64 × xH)} {R : Option xV} {H' : xH} (hD : 1 ≤ d) (hf : f_Rule_worth_42_b90 i0 v2 h = some o) (K0 : ∀ (a : Int64) (h1 : xH), o = (a, h1) → R = some (xl a) ∧ H' = h1) : xEv g l d 10 90 [(0, xr 2 (some i0)), (2, xi v2)] [] h R H' := by
  unfold f_Rule_worth_42_b90 at hf
  refine xs_iload_n d10_90 rfl ?_
  refine xs_iconst (v := 1) d10_91 (by decide) ?_
  rcases lk_if hf with ⟨hc16, hf⟩ | ⟨hc16, hf⟩
  · refine xs_icmp_lt (tgt := 106) d10_92 (by decide) (fun _ => ?_) (fun hn => absurd hc16 hn)
    refine xs_lconst (v := 0) d10_106 (by decide) ?_
    obtain ⟨eR, eH⟩ := K0 _ _ (Option.some.inj hf).symm
    subst eR; subst eH
    exact xs_lret d10_107 rt10
  · refine xs_icmp_lt (tgt := 106) d10_92 (by decide) (fun hp => absurd hp hc16) (fun _ => ?_)
    refine xs_aload_n d10_95 rfl ?_
    refine xe_getc (j := i0) d10_96 ky10 fl63 fk2_1 (by omega) ?_
    refine xs_iload_n d10_99 rfl ?_
    refine xs_iconst (v := 1) d10_100 (by decide) ?_
    refine xs_isub d10_101 ?_
    obtain ⟨hin17, hf⟩ := lk_g hf
    refine xe_lald d10_102 (by decide) ak19 hin17 ?_
    refine xs_goto (tgt := 107) d10_103 (by decide) ?_
    obtain ⟨eR, eH⟩ := K0 _ _ (Option.some.inj hf).symm
    subst eR; subst eH
    exact xs_lret d10_107 rt10
noncomputable def f_Rule_worth_42_b142 (i0 : Nat) (v3 : Int32) (h : xH) : Option ((Int32 × Int32 × xH) ⊕ (Int64 × xH)) :=
  f_Rule_worth_42_b215 i0 (0 : Int32) v3 h
set_option maxHeartbeats 4000000 in
set_option maxRecDepth 100000 in
theorem f_Rule_worth_42_b142_ok {g : xG} {l : Launch} {d : Nat} {i0 : Nat} {v3 : Int32} {h : xH} {o : ((Int32 × Int32 × xH) ⊕ (Int64 × xH))} {R : Option xV} {H' : xH} (hD : 1 ≤ d) (hf : f_Rule_worth_42_b142 i0 v3 h = some o) (K1 : ∀ (w2 : Int32) (w3 : Int32) (h1 : xH), o = Sum.inl (w2, w3, h1) → xEv g l d 10 4 [(0, xr 2 (some i0)), (1, xr 42 (some 0)), (2, xi w2), (3, xi w3)] [] h1 R H') (K0 : ∀ (a : Int64) (h1 : xH), o = Sum.inr ((a, h1)) → R = some (xl a) ∧ H' = h1) : xEv g l d 10 142 [(0, xr 2 (some i0)), (1, xr 42 (some 0)), (3, xi v3)] [] h R H' := by
  unfold f_Rule_worth_42_b142 at hf
  refine xs_iconst (v := 0) d10_142 (by decide) ?_
  refine xe_istore_n (v := (0 : Int32)) (ls2 := [(0, xr 2 (some i0)), (1, xr 42 (some 0)), (2, xi (0 : Int32)), (3, xi v3)]) d10_143 mx10 (by decide) rfl rfl ?_
  refine xs_goto (tgt := 215) d10_144 (by decide) ?_
  exact f_Rule_worth_42_b215_ok hD hf K1 K0
noncomputable def f_Rule_worth_42_b133 (i0 : Nat) (v2 : Int32) (h : xH) : Option (Int64 × xH) :=
  if xib (v2 - (2 : Int32)) 64 then (
  some ((h.2.2.2.2 19 i0 (v2 - (2 : Int32)).toNatClampNeg, h))) else none
set_option maxHeartbeats 4000000 in
set_option maxRecDepth 100000 in
theorem f_Rule_worth_42_b133_ok {g : xG} {l : Launch} {d : Nat} {i0 : Nat} {v2 : Int32} {h : xH} {o : (Int64 × xH)} {R : Option xV} {H' : xH} (hD : 1 ≤ d) (hf : f_Rule_worth_42_b133 i0 v2 h = some o) (K0 : ∀ (a : Int64) (h1 : xH), o = (a, h1) → R = some (xl a) ∧ H' = h1) : xEv g l d 10 133 [(0, xr 2 (some i0)), (2, xi v2)] [] h R H' := by
  unfold f_Rule_worth_42_b133 at hf
  refine xs_aload_n d10_133 rfl ?_
  refine xe_getc (j := i0) d10_134 ky10 fl63 fk2_1 (by omega) ?_
  refine xs_iload_n d10_137 rfl ?_
  refine xs_iconst (v := 2) d10_138 (by decide) ?_
  refine xs_isub d10_139 ?_
  obtain ⟨hin22, hf⟩ := lk_g hf
  refine xe_lald d10_140 (by decide) ak19 hin22 ?_
  obtain ⟨eR, eH⟩ := K0 _ _ (Option.some.inj hf).symm
  subst eR; subst eH
  exact xs_lret d10_141 rt10
noncomputable def f_Rule_worth_42_s4 (i0 : Nat) (v2 : Int32) (v3 : Int32) (h : xH) : Option ((Int32 × Int32 × xH) ⊕ (Int64 × xH)) :=
  if (h.1 2 2 i0) ≤ v3 then (
  some (Sum.inr (((0 : Int64), h)))) else (
  if (400 : Int32) ≤ v3 then (
  some (Sum.inr (((0 : Int64), h)))) else (
  if xib v3 400 then (
  xlet (h.2.2.2.1 18 i0 (v3).toNatClampNeg) fun v4_4 =>
  if (100 : Int32) ≤ v4_4 then (
  f_Rule_worth_42_b43 i0 v2 v3 v4_4 h) else (
  if (12 : Int32) ≤ v4_4 then (
  if v4_4 = (26 : Int32) then (
  xup (f_Rule_worth_42_b90 i0 v2 h)) else (
  if v4_4 = (25 : Int32) then (
  if v2 < (2 : Int32) then (
  f_Rule_worth_42_b142 i0 v3 h) else (
  if xib (v2 - (1 : Int32)) 64 then (
  if (lg_cmp (h.2.2.2.2 19 i0 (v2 - (1 : Int32)).toNatClampNeg) (0 : Int64)) = (0 : Int32) then (
  f_Rule_worth_42_b142 i0 v3 h) else (
  xup (f_Rule_worth_42_b133 i0 v2 h))) else none)) else (
  if v4_4 = (24 : Int32) then (
  if v2 < (1 : Int32) then (
  f_Rule_worth_42_b215 i0 v2 v3 h) else (
  if xib (v2 - (1 : Int32)) 64 then (
  if xib (v2 - (1 : Int32)) 64 then (
  xlet (xsB h 19 i0 (vp_updL (h.2.2.2.2 19 i0) (v2 - (1 : Int32)).toNatClampNeg ((1 : Int64) - (h.2.2.2.2 19 i0 (v2 - (1 : Int32)).toNatClampNeg)))) fun h27 =>
  f_Rule_worth_42_b215 i0 v2 v3 h27) else none) else none)) else (
  if v2 < (2 : Int32) then (
  f_Rule_worth_42_b215 i0 v2 v3 h) else (
  xlet (v2 + (-1 : Int32)) fun v2_29 =>
  if xib (v2_29 - (1 : Int32)) 64 then (
  if xib v2_29 64 then (
  (f_Rule_joined v4_4 (h.2.2.2.2 19 i0 (v2_29 - (1 : Int32)).toNatClampNeg) (h.2.2.2.2 19 i0 (v2_29).toNatClampNeg) h).bind fun r32 =>
  if xib (v2_29 - (1 : Int32)) 64 then (
  xlet (xsB h 19 i0 (vp_updL (h.2.2.2.2 19 i0) (v2_29 - (1 : Int32)).toNatClampNeg r32)) fun h35 =>
  f_Rule_worth_42_b215 i0 v2_29 v3 h35) else none) else none) else none))))) else (
  f_Rule_worth_42_b43 i0 v2 v3 v4_4 h))) else none))
set_option maxHeartbeats 4000000 in
set_option maxRecDepth 100000 in
theorem f_Rule_worth_42_s4_ok {g : xG} {l : Launch} {d : Nat} {i0 : Nat} {v2 : Int32} {v3 : Int32} {h : xH} {o : ((Int32 × Int32 × xH) ⊕ (Int64 × xH))} {R : Option xV} {H' : xH} (hD : 1 ≤ d) (hf : f_Rule_worth_42_s4 i0 v2 v3 h = some o) (K1 : ∀ (w2 : Int32) (w3 : Int32) (h1 : xH), o = Sum.inl (w2, w3, h1) → xEv g l d 10 4 [(0, xr 2 (some i0)), (1, xr 42 (some 0)), (2, xi w2), (3, xi w3)] [] h1 R H') (K0 : ∀ (a : Int64) (h1 : xH), o = Sum.inr ((a, h1)) → R = some (xl a) ∧ H' = h1) : xEv g l d 10 4 [(0, xr 2 (some i0)), (1, xr 42 (some 0)), (2, xi v2), (3, xi v3)] [] h R H' := by
  unfold f_Rule_worth_42_s4 at hf
  refine xs_iload_n d10_4 rfl ?_
  refine xs_aload_n d10_5 rfl ?_
  refine xe_geti d10_6 ky10 fl64 fk2_2 ?_
  rcases lk_if hf with ⟨hc1, hf⟩ | ⟨hc1, hf⟩
  · refine xs_icmp_ge (tgt := 221) d10_9 (by decide) (fun _ => ?_) (fun hn => absurd hc1 hn)
    refine xs_lconst (v := 0) d10_221 (by decide) ?_
    obtain ⟨eR, eH⟩ := K0 _ _ (Option.some.inj hf).symm
    subst eR; subst eH
    exact xs_lret d10_222 rt10
  · refine xs_icmp_ge (tgt := 221) d10_9 (by decide) (fun hp => absurd hp hc1) (fun _ => ?_)
    refine xs_iload_n d10_12 rfl ?_
    refine xs_aload_n d10_13 rfl ?_
    refine xe_getc (j := i0) d10_14 ky10 fl62 fk2_0 (by omega) ?_
    refine xe_alen (v := 400) d10_17 (by decide) ak18 (by decide) (by decide) ?_
    rcases lk_if hf with ⟨hc2, hf⟩ | ⟨hc2, hf⟩
    · refine xs_icmp_ge (tgt := 221) d10_18 (by decide) (fun _ => ?_) (fun hn => absurd hc2 hn)
      refine xs_lconst (v := 0) d10_221 (by decide) ?_
      obtain ⟨eR, eH⟩ := K0 _ _ (Option.some.inj hf).symm
      subst eR; subst eH
      exact xs_lret d10_222 rt10
    · refine xs_icmp_ge (tgt := 221) d10_18 (by decide) (fun hp => absurd hp hc2) (fun _ => ?_)
      refine xs_aload_n d10_21 rfl ?_
      refine xe_getc (j := i0) d10_22 ky10 fl62 fk2_0 (by omega) ?_
      refine xs_iload_n d10_25 rfl ?_
      obtain ⟨hin3, hf⟩ := lk_g hf
      refine xe_iald d10_26 (by decide) ak18 hin3 ?_
      obtain ⟨v4_4, ev4_4, hf⟩ := lk_let hf
      refine xe_istore (v := v4_4) (ls2 := [(0, xr 2 (some i0)), (1, xr 42 (some 0)), (2, xi v2), (3, xi v3), (4, xi v4_4)]) d10_27 mx10 (by decide) ev4_4 rfl ?_
      refine xs_iload d10_29 rfl ?_
      refine xs_bipush (v := 100) d10_31 (by decide) ?_
      rcases lk_if hf with ⟨hc5, hf⟩ | ⟨hc5, hf⟩
      · refine xs_icmp_ge (tgt := 43) d10_33 (by decide) (fun _ => ?_) (fun hn => absurd hc5 hn)
        exact f_Rule_worth_42_b43_ok hD hf K1 K0
      · refine xs_icmp_ge (tgt := 43) d10_33 (by decide) (fun hp => absurd hp hc5) (fun _ => ?_)
        refine xs_iload d10_36 rfl ?_
        refine xs_bipush (v := 12) d10_38 (by decide) ?_
        rcases lk_if hf with ⟨hc14, hf⟩ | ⟨hc14, hf⟩
        · refine xs_icmp_ge (tgt := 83) d10_40 (by decide) (fun _ => ?_) (fun hn => absurd hc14 hn)
          refine xs_iload d10_83 rfl ?_
          refine xs_bipush (v := 26) d10_85 (by decide) ?_
          rcases lk_if hf with ⟨hc15, hf⟩ | ⟨hc15, hf⟩
          · refine xs_icmp_ne (tgt := 108) d10_87 (by decide) (fun _ => ?_) (fun hn => absurd hc15 hn)
            refine xs_pick [0, 2] rfl ?_
            obtain ⟨x0, hf, ex0⟩ := lk_up hf
            exact f_Rule_worth_42_b90_ok hD hf (fun u0 u1 e => K0 u0 u1 (ex0.trans (congrArg Sum.inr e)))
          · refine xs_icmp_ne (tgt := 108) d10_87 (by decide) (fun hp => absurd hp hc15) (fun _ => ?_)
            refine xs_iload d10_108 rfl ?_
            refine xs_bipush (v := 25) d10_110 (by decide) ?_
            rcases lk_if hf with ⟨hc18, hf⟩ | ⟨hc18, hf⟩
            · refine xs_icmp_ne (tgt := 147) d10_112 (by decide) (fun _ => ?_) (fun hn => absurd hc18 hn)
              refine xs_iload_n d10_115 rfl ?_
              refine xs_iconst (v := 2) d10_116 (by decide) ?_
              rcases lk_if hf with ⟨hc19, hf⟩ | ⟨hc19, hf⟩
              · refine xs_icmp_lt (tgt := 142) d10_117 (by decide) (fun _ => ?_) (fun hn => absurd hc19 hn)
                refine xs_pick [0, 1, 3] rfl ?_
                exact f_Rule_worth_42_b142_ok hD hf K1 K0
              · refine xs_icmp_lt (tgt := 142) d10_117 (by decide) (fun hp => absurd hp hc19) (fun _ => ?_)
                refine xs_aload_n d10_120 rfl ?_
                refine xe_getc (j := i0) d10_121 ky10 fl63 fk2_1 (by omega) ?_
                refine xs_iload_n d10_124 rfl ?_
                refine xs_iconst (v := 1) d10_125 (by decide) ?_
                refine xs_isub d10_126 ?_
                obtain ⟨hin20, hf⟩ := lk_g hf
                refine xe_lald d10_127 (by decide) ak19 hin20 ?_
                refine xs_lconst (v := 0) d10_128 (by decide) ?_
                refine xs_lcmp d10_129 ?_
                rcases lk_if hf with ⟨hc21, hf⟩ | ⟨hc21, hf⟩
                · refine xs_if_eq (tgt := 142) d10_130 (by decide) (fun _ => ?_) (fun hn => absurd hc21 hn)
                  refine xs_pick [0, 1, 3] rfl ?_
                  exact f_Rule_worth_42_b142_ok hD hf K1 K0
                · refine xs_if_eq (tgt := 142) d10_130 (by decide) (fun hp => absurd hp hc21) (fun _ => ?_)
                  refine xs_pick [0, 2] rfl ?_
                  obtain ⟨x0, hf, ex0⟩ := lk_up hf
                  exact f_Rule_worth_42_b133_ok hD hf (fun u0 u1 e => K0 u0 u1 (ex0.trans (congrArg Sum.inr e)))
            · refine xs_icmp_ne (tgt := 147) d10_112 (by decide) (fun hp => absurd hp hc18) (fun _ => ?_)
              refine xs_iload d10_147 rfl ?_
              refine xs_bipush (v := 24) d10_149 (by decide) ?_
              rcases lk_if hf with ⟨hc23, hf⟩ | ⟨hc23, hf⟩
              · refine xs_icmp_ne (tgt := 180) d10_151 (by decide) (fun _ => ?_) (fun hn => absurd hc23 hn)
                refine xs_iload_n d10_154 rfl ?_
                refine xs_iconst (v := 1) d10_155 (by decide) ?_
                rcases lk_if hf with ⟨hc24, hf⟩ | ⟨hc24, hf⟩
                · refine xs_icmp_lt (tgt := 215) d10_156 (by decide) (fun _ => ?_) (fun hn => absurd hc24 hn)
                  refine xs_pick [0, 1, 2, 3] rfl ?_
                  exact f_Rule_worth_42_b215_ok hD hf K1 K0
                · refine xs_icmp_lt (tgt := 215) d10_156 (by decide) (fun hp => absurd hp hc24) (fun _ => ?_)
                  refine xs_aload_n d10_159 rfl ?_
                  refine xe_getc (j := i0) d10_160 ky10 fl63 fk2_1 (by omega) ?_
                  refine xs_iload_n d10_163 rfl ?_
                  refine xs_iconst (v := 1) d10_164 (by decide) ?_
                  refine xs_isub d10_165 ?_
                  refine xs_lconst (v := 1) d10_166 (by decide) ?_
                  refine xs_aload_n d10_167 rfl ?_
                  refine xe_getc (j := i0) d10_168 ky10 fl63 fk2_1 (by omega) ?_
                  refine xs_iload_n d10_171 rfl ?_
                  refine xs_iconst (v := 1) d10_172 (by decide) ?_
                  refine xs_isub d10_173 ?_
                  obtain ⟨hin25, hf⟩ := lk_g hf
                  refine xe_lald d10_174 (by decide) ak19 hin25 ?_
                  refine xs_lsub d10_175 ?_
                  obtain ⟨hin26, hf⟩ := lk_g hf
                  obtain ⟨h27, eh27, hf⟩ := lk_let hf
                  refine xe_last d10_176 (by decide) ak19 hin26  eh27 ?_
                  refine xs_goto (tgt := 215) d10_177 (by decide) ?_
                  refine xs_pick [0, 1, 2, 3] rfl ?_
                  exact f_Rule_worth_42_b215_ok hD hf K1 K0
              · refine xs_icmp_ne (tgt := 180) d10_151 (by decide) (fun hp => absurd hp hc23) (fun _ => ?_)
                refine xs_iload_n d10_180 rfl ?_
                refine xs_iconst (v := 2) d10_181 (by decide) ?_
                rcases lk_if hf with ⟨hc28, hf⟩ | ⟨hc28, hf⟩
                · refine xs_icmp_lt (tgt := 215) d10_182 (by decide) (fun _ => ?_) (fun hn => absurd hc28 hn)
                  refine xs_pick [0, 1, 2, 3] rfl ?_
                  exact f_Rule_worth_42_b215_ok hD hf K1 K0
                · refine xs_icmp_lt (tgt := 215) d10_182 (by decide) (fun hp => absurd hp hc28) (fun _ => ?_)
                  obtain ⟨v2_29, ev2_29, hf⟩ := lk_let hf
                  refine xe_iinc (v := v2_29) (b := -1) (ls2 := [(0, xr 2 (some i0)), (1, xr 42 (some 0)), (2, xi v2_29), (3, xi v3), (4, xi v4_4)]) d10_185 mx10 (by decide) rfl (by decide) ev2_29 rfl ?_
                  refine xs_aload_n d10_188 rfl ?_
                  refine xe_getc (j := i0) d10_189 ky10 fl63 fk2_1 (by omega) ?_
                  refine xs_iload_n d10_192 rfl ?_
                  refine xs_iconst (v := 1) d10_193 (by decide) ?_
                  refine xs_isub d10_194 ?_
                  refine xs_iload d10_195 rfl ?_
                  refine xs_aload_n d10_197 rfl ?_
                  refine xe_getc (j := i0) d10_198 ky10 fl63 fk2_1 (by omega) ?_
                  refine xs_iload_n d10_201 rfl ?_
                  refine xs_iconst (v := 1) d10_202 (by decide) ?_
                  refine xs_isub d10_203 ?_
                  obtain ⟨hin30, hf⟩ := lk_g hf
                  refine xe_lald d10_204 (by decide) ak19 hin30 ?_
                  refine xs_aload_n d10_205 rfl ?_
                  refine xe_getc (j := i0) d10_206 ky10 fl63 fk2_1 (by omega) ?_
                  refine xs_iload_n d10_209 rfl ?_
                  obtain ⟨hin31, hf⟩ := lk_g hf
                  refine xe_lald d10_210 (by decide) ak19 hin31 ?_
                  obtain ⟨r32, hc33, hf⟩ := lk_b hf
                  refine xe_calls1 (as := [xi v4_4, xl (h.2.2.2.2 19 i0 (v2_29 - (1 : Int32)).toNatClampNeg), xl (h.2.2.2.2 19 i0 (v2_29).toNatClampNeg)]) (st := [xi (v2_29 - (1 : Int32)), xr 19 (some i0)]) (h2 := h) (d2 := d - 1) d10_211 ky10 ml86 st12 rfl na12 (Nat.le_of_ble_eq_true rfl) (by omega) (f_Rule_joined_ok (by omega) hc33) ?_
                  obtain ⟨hin34, hf⟩ := lk_g hf
                  obtain ⟨h35, eh35, hf⟩ := lk_let hf
                  refine xe_last d10_214 (by decide) ak19 hin34  eh35 ?_
                  refine xs_pick [0, 1, 2, 3] rfl ?_
                  exact f_Rule_worth_42_b215_ok hD hf K1 K0
        · refine xs_icmp_ge (tgt := 83) d10_40 (by decide) (fun hp => absurd hp hc14) (fun _ => ?_)
          exact f_Rule_worth_42_b43_ok hD hf K1 K0
noncomputable def f_Rule_worth_42_l4 (i0 : Nat) (v2 : Int32) (v3 : Int32) (h : xH) : Option (Int64 × xH) :=
  whl (fun s => f_Rule_worth_42_s4 i0 s.1 s.2.1 s.2.2) (v2, v3, h)
theorem f_Rule_worth_42_l4_ok {g : xG} {l : Launch} {d : Nat} {i0 : Nat} {v2 : Int32} {v3 : Int32} {h : xH} {o : (Int64 × xH)} {R : Option xV} {H' : xH} (hD : 1 ≤ d) (hf : f_Rule_worth_42_l4 i0 v2 v3 h = some o) (K0 : ∀ (a : Int64) (h1 : xH), o = (a, h1) → R = some (xl a) ∧ H' = h1) : xEv g l d 10 4 [(0, xr 2 (some i0)), (1, xr 42 (some 0)), (2, xi v2), (3, xi v3)] [] h R H' := by
  obtain ⟨n, hn⟩ := whl_iff.mp hf
  clear hf
  induction n generalizing v2 v3 h with
  | zero => cases hn
  | succ n ih =>
    obtain ⟨o2, hs, hn⟩ := lk_b (show (f_Rule_worth_42_s4 i0 v2 v3 h).bind (fun o => Sum.elim (itn _ n) some o) = some o from hn)
    exact f_Rule_worth_42_s4_ok hD hs (fun u0 u1 u2 e => ih (by rw [e] at hn; exact hn)) (fun u0 u1 e => K0 u0 u1 (by rw [e] at hn; exact (Option.some.inj hn).symm))
noncomputable def f_Rule_worth_42_e (i0 : Nat) (h : xH) : Option (Int64 × xH) :=
  f_Rule_worth_42_l4 i0 (0 : Int32) (0 : Int32) h
set_option maxHeartbeats 4000000 in
set_option maxRecDepth 100000 in
theorem f_Rule_worth_42_e_ok {g : xG} {l : Launch} {d : Nat} {i0 : Nat} {h : xH} {o : (Int64 × xH)} {R : Option xV} {H' : xH} (hD : 1 ≤ d) (hf : f_Rule_worth_42_e i0 h = some o) (K0 : ∀ (a : Int64) (h1 : xH), o = (a, h1) → R = some (xl a) ∧ H' = h1) : xEv g l d 10 0 [(0, xr 2 (some i0)), (1, xr 42 (some 0))] [] h R H' := by
  unfold f_Rule_worth_42_e at hf
  refine xs_iconst (v := 0) d10_0 (by decide) ?_
  refine xe_istore_n (v := (0 : Int32)) (ls2 := [(0, xr 2 (some i0)), (1, xr 42 (some 0)), (2, xi (0 : Int32))]) d10_1 mx10 (by decide) rfl rfl ?_
  refine xs_iconst (v := 0) d10_2 (by decide) ?_
  refine xe_istore_n (v := (0 : Int32)) (ls2 := [(0, xr 2 (some i0)), (1, xr 42 (some 0)), (2, xi (0 : Int32)), (3, xi (0 : Int32))]) d10_3 mx10 (by decide) rfl rfl ?_
  exact f_Rule_worth_42_l4_ok hD hf K0
noncomputable def f_Rule_worth_42 (i0 : Nat) (h : xH) : Option (Int64 × xH) := f_Rule_worth_42_e i0 h
theorem f_Rule_worth_42_ok {g : xG} {l : Launch} {d : Nat} {i0 : Nat} {h : xH} {r : Int64} {h1 : xH} (hD : 1 ≤ d) (hf : f_Rule_worth_42 i0 h = some (r, h1)) : xC g l d 10 [xr 2 (some i0), xr 42 (some 0)] h (some (xl r)) h1 :=
  xC_of2 (by decide) mx10 (Nat.le_of_ble_eq_true rfl) (f_Rule_worth_42_e_ok hD hf (fun _ _ e => by cases e; exact ⟨rfl, rfl⟩))
theorem d90_0 : decode (xcode 90) 0 = .ok (.aload_n 0, 1) := by decide +kernel
theorem d90_1 : decode (xcode 90) 1 = .ok (.iload_n 1, 1) := by decide +kernel
theorem d90_2 : decode (xcode 90) 2 = .ok (.invokevirtual 84, 3) := by decide +kernel
theorem d90_5 : decode (xcode 90) 5 = .ok (.iconst (-1), 1) := by decide +kernel
theorem d90_6 : decode (xcode 90) 6 = .ok (.istore_n 2, 1) := by decide +kernel
theorem d90_7 : decode (xcode 90) 7 = .ok (.lconst 0, 1) := by decide +kernel
theorem d90_8 : decode (xcode 90) 8 = .ok (.lstore_n 3, 1) := by decide +kernel
theorem d90_9 : decode (xcode 90) 9 = .ok (.iconst 0, 1) := by decide +kernel
theorem d90_10 : decode (xcode 90) 10 = .ok (.istore 5, 2) := by decide +kernel
theorem d90_12 : decode (xcode 90) 12 = .ok (.iload 5, 2) := by decide +kernel
theorem d90_14 : decode (xcode 90) 14 = .ok (.bipush 8, 2) := by decide +kernel
theorem d90_16 : decode (xcode 90) 16 = .ok (.if_icmp .ge 50, 3) := by decide +kernel
theorem d90_19 : decode (xcode 90) 19 = .ok (.iload_n 1, 1) := by decide +kernel
theorem d90_20 : decode (xcode 90) 20 = .ok (.iload 5, 2) := by decide +kernel
theorem d90_22 : decode (xcode 90) 22 = .ok (.ishr, 1) := by decide +kernel
theorem d90_23 : decode (xcode 90) 23 = .ok (.iconst 1, 1) := by decide +kernel
theorem d90_24 : decode (xcode 90) 24 = .ok (.iand, 1) := by decide +kernel
theorem d90_25 : decode (xcode 90) 25 = .ok (.ifCond .eq 35, 3) := by decide +kernel
theorem d90_28 : decode (xcode 90) 28 = .ok (.aload_n 0, 1) := by decide +kernel
theorem d90_29 : decode (xcode 90) 29 = .ok (.iload 5, 2) := by decide +kernel
theorem d90_31 : decode (xcode 90) 31 = .ok (.invokevirtual 87, 3) := by decide +kernel
theorem d90_34 : decode (xcode 90) 34 = .ok (.aload_n 0, 1) := by decide +kernel
theorem d90_35 : decode (xcode 90) 35 = .ok (.getfield 31, 3) := by decide +kernel
theorem d90_38 : decode (xcode 90) 38 = .ok (.aload_n 0, 1) := by decide +kernel
theorem d90_39 : decode (xcode 90) 39 = .ok (.getfield 20, 3) := by decide +kernel
theorem d90_42 : decode (xcode 90) 42 = .ok (.invokevirtual 90, 3) := by decide +kernel
theorem d90_45 : decode (xcode 90) 45 = .ok (.lstore 6, 2) := by decide +kernel
theorem d90_47 : decode (xcode 90) 47 = .ok (.lload 6, 2) := by decide +kernel
theorem d90_49 : decode (xcode 90) 49 = .ok (.lload_n 3, 1) := by decide +kernel
theorem d90_50 : decode (xcode 90) 50 = .ok (.lcmp, 1) := by decide +kernel
theorem d90_51 : decode (xcode 90) 51 = .ok (.ifCond .le 9, 3) := by decide +kernel
theorem d90_54 : decode (xcode 90) 54 = .ok (.lload 6, 2) := by decide +kernel
theorem d90_56 : decode (xcode 90) 56 = .ok (.lstore_n 3, 1) := by decide +kernel
theorem d90_57 : decode (xcode 90) 57 = .ok (.iload 5, 2) := by decide +kernel
theorem d90_59 : decode (xcode 90) 59 = .ok (.istore_n 2, 1) := by decide +kernel
theorem d90_60 : decode (xcode 90) 60 = .ok (.iinc 5 1, 3) := by decide +kernel
theorem d90_63 : decode (xcode 90) 63 = .ok (.goto (-51), 3) := by decide +kernel
theorem d90_66 : decode (xcode 90) 66 = .ok (.iload_n 2, 1) := by decide +kernel
theorem d90_67 : decode (xcode 90) 67 = .ok (.ireturn, 1) := by decide +kernel
noncomputable def f_Walk_chosenOf_b60 (v1 : Int32) (v2 : Int32) (v3 : Int64) (v5 : Int32) (h : xH) : Option ((Int32 × Int64 × Int32 × xH) ⊕ (Int32 × xH)) :=
  xlet (v5 + (1 : Int32)) fun v5_6 =>
  some (Sum.inl (v2, v3, v5_6, h))
set_option maxHeartbeats 4000000 in
set_option maxRecDepth 100000 in
theorem f_Walk_chosenOf_b60_ok {g : xG} {l : Launch} {d : Nat} {v1 : Int32} {v2 : Int32} {v3 : Int64} {v5 : Int32} {h : xH} {o : ((Int32 × Int64 × Int32 × xH) ⊕ (Int32 × xH))} {R : Option xV} {H' : xH} (hD : 2 ≤ d) (hf : f_Walk_chosenOf_b60 v1 v2 v3 v5 h = some o) (K1 : ∀ (w2 : Int32) (w3 : Int64) (w5 : Int32) (h1 : xH), o = Sum.inl (w2, w3, w5, h1) → xEv g l d 90 12 [(0, xr 10 (some 0)), (1, xi v1), (2, xi w2), (3, xl w3), (5, xi w5)] [] h1 R H') (K0 : ∀ (a : Int32) (h1 : xH), o = Sum.inr ((a, h1)) → R = some (xi a) ∧ H' = h1) : xEv g l d 90 60 [(0, xr 10 (some 0)), (1, xi v1), (2, xi v2), (3, xl v3), (5, xi v5)] [] h R H' := by
  unfold f_Walk_chosenOf_b60 at hf
  obtain ⟨v5_6, ev5_6, hf⟩ := lk_let hf
  refine xe_iinc (v := v5_6) (b := 1) (ls2 := [(0, xr 10 (some 0)), (1, xi v1), (2, xi v2), (3, xl v3), (5, xi v5_6)]) d90_60 mx90 (by decide) rfl (by decide) ev5_6 rfl ?_
  refine xs_goto (tgt := 12) d90_63 (by decide) ?_
  exact K1 _ _ _ _ (Option.some.inj hf).symm
noncomputable def f_Walk_chosenOf_s12 (v1 : Int32) (v2 : Int32) (v3 : Int64) (v5 : Int32) (h : xH) : Option ((Int32 × Int64 × Int32 × xH) ⊕ (Int32 × xH)) :=
  if (8 : Int32) ≤ v5 then (
  some (Sum.inr ((v2, h)))) else (
  if ((v1 >>> (v5 &&& 31)) &&& (1 : Int32)) = (0 : Int32) then (
  f_Walk_chosenOf_b60 v1 v2 v3 v5 h) else (
  (f_Walk_tellOf v5 h).bind fun h9 =>
  (h9.2.2.1 10 4 0).bind fun i910 =>
  (f_Rule_worth_42 i910 h9).bind fun q13 =>
  if (lg_cmp q13.1 v3) ≤ (0 : Int32) then (
  f_Walk_chosenOf_b60 v1 v2 v3 v5 q13.2) else (
  f_Walk_chosenOf_b60 v1 v5 q13.1 v5 q13.2)))
set_option maxHeartbeats 4000000 in
set_option maxRecDepth 100000 in
theorem f_Walk_chosenOf_s12_ok {g : xG} {l : Launch} {d : Nat} {v1 : Int32} {v2 : Int32} {v3 : Int64} {v5 : Int32} {h : xH} {o : ((Int32 × Int64 × Int32 × xH) ⊕ (Int32 × xH))} {R : Option xV} {H' : xH} (hD : 2 ≤ d) (hf : f_Walk_chosenOf_s12 v1 v2 v3 v5 h = some o) (K1 : ∀ (w2 : Int32) (w3 : Int64) (w5 : Int32) (h1 : xH), o = Sum.inl (w2, w3, w5, h1) → xEv g l d 90 12 [(0, xr 10 (some 0)), (1, xi v1), (2, xi w2), (3, xl w3), (5, xi w5)] [] h1 R H') (K0 : ∀ (a : Int32) (h1 : xH), o = Sum.inr ((a, h1)) → R = some (xi a) ∧ H' = h1) : xEv g l d 90 12 [(0, xr 10 (some 0)), (1, xi v1), (2, xi v2), (3, xl v3), (5, xi v5)] [] h R H' := by
  unfold f_Walk_chosenOf_s12 at hf
  refine xs_iload d90_12 rfl ?_
  refine xs_bipush (v := 8) d90_14 (by decide) ?_
  rcases lk_if hf with ⟨hc4, hf⟩ | ⟨hc4, hf⟩
  · refine xs_icmp_ge (tgt := 66) d90_16 (by decide) (fun _ => ?_) (fun hn => absurd hc4 hn)
    refine xs_iload_n d90_66 rfl ?_
    obtain ⟨eR, eH⟩ := K0 _ _ (Option.some.inj hf).symm
    subst eR; subst eH
    exact xs_iret d90_67 rt90
  · refine xs_icmp_ge (tgt := 66) d90_16 (by decide) (fun hp => absurd hp hc4) (fun _ => ?_)
    refine xs_iload_n d90_19 rfl ?_
    refine xs_iload d90_20 rfl ?_
    refine xs_ishr d90_22 ?_
    refine xs_iconst (v := 1) d90_23 (by decide) ?_
    refine xs_iand d90_24 ?_
    rcases lk_if hf with ⟨hc5, hf⟩ | ⟨hc5, hf⟩
    · refine xs_if_eq (tgt := 60) d90_25 (by decide) (fun _ => ?_) (fun hn => absurd hc5 hn)
      exact f_Walk_chosenOf_b60_ok hD hf K1 K0
    · refine xs_if_eq (tgt := 60) d90_25 (by decide) (fun hp => absurd hp hc5) (fun _ => ?_)
      refine xs_aload_n d90_28 rfl ?_
      refine xs_iload d90_29 rfl ?_
      obtain ⟨h9, hc8, hf⟩ := lk_b hf
      refine xe_callv0 (as := [xi v5]) (st := []) (h2 := h9) (d2 := d - 1) d90_31 ky90 ml82 st92 (by decide) cn92 rfl na92 (Nat.le_of_ble_eq_true rfl) (by omega) (f_Walk_tellOf_ok (by omega) hc8) ?_
      refine xs_aload_n d90_34 rfl ?_
      refine xe_getd d90_35 ky90 fl117 fk10_4 ?_
      refine xs_aload_n d90_38 rfl ?_
      refine xe_getc (j := 0) d90_39 ky90 fl115 fk10_2 rfl ?_
      obtain ⟨i910, ei910, hf⟩ := lk_b hf
      rw [ei910]
      obtain ⟨q13, hc12, hf⟩ := lk_b hf
      refine xe_callv1 (as := [xr 42 (some 0)]) (st := []) (h2 := q13.2) (d2 := d - 1) d90_42 ky90 ml84 st10 (by decide) cn10 rfl na10 (Nat.le_of_ble_eq_true rfl) (by omega) (f_Rule_worth_42_ok (by omega) hc12) ?_
      refine xe_lstore (v := q13.1) (ls2 := [(0, xr 10 (some 0)), (1, xi v1), (2, xi v2), (3, xl v3), (5, xi v5), (6, xl q13.1)]) d90_45 mx90 (by decide) rfl rfl ?_
      refine xs_lload d90_47 rfl ?_
      refine xs_lload_n d90_49 rfl ?_
      refine xs_lcmp d90_50 ?_
      rcases lk_if hf with ⟨hc14, hf⟩ | ⟨hc14, hf⟩
      · refine xs_if_le (tgt := 60) d90_51 (by decide) (fun _ => ?_) (fun hn => absurd hc14 hn)
        refine xs_pick [0, 1, 2, 3, 4] rfl ?_
        exact f_Walk_chosenOf_b60_ok hD hf K1 K0
      · refine xs_if_le (tgt := 60) d90_51 (by decide) (fun hp => absurd hp hc14) (fun _ => ?_)
        refine xs_lload d90_54 rfl ?_
        refine xe_lstore_n (v := q13.1) (ls2 := [(0, xr 10 (some 0)), (1, xi v1), (2, xi v2), (3, xl q13.1), (5, xi v5), (6, xl q13.1)]) d90_56 mx90 (by decide) rfl rfl ?_
        refine xs_iload d90_57 rfl ?_
        refine xe_istore_n (v := v5) (ls2 := [(0, xr 10 (some 0)), (1, xi v1), (2, xi v5), (3, xl q13.1), (5, xi v5), (6, xl q13.1)]) d90_59 mx90 (by decide) rfl rfl ?_
        refine xs_pick [0, 1, 2, 3, 4] rfl ?_
        exact f_Walk_chosenOf_b60_ok hD hf K1 K0
noncomputable def f_Walk_chosenOf_l12 (v1 : Int32) (v2 : Int32) (v3 : Int64) (v5 : Int32) (h : xH) : Option (Int32 × xH) :=
  whl (fun s => f_Walk_chosenOf_s12 v1 s.1 s.2.1 s.2.2.1 s.2.2.2) (v2, v3, v5, h)
theorem f_Walk_chosenOf_l12_ok {g : xG} {l : Launch} {d : Nat} {v1 : Int32} {v2 : Int32} {v3 : Int64} {v5 : Int32} {h : xH} {o : (Int32 × xH)} {R : Option xV} {H' : xH} (hD : 2 ≤ d) (hf : f_Walk_chosenOf_l12 v1 v2 v3 v5 h = some o) (K0 : ∀ (a : Int32) (h1 : xH), o = (a, h1) → R = some (xi a) ∧ H' = h1) : xEv g l d 90 12 [(0, xr 10 (some 0)), (1, xi v1), (2, xi v2), (3, xl v3), (5, xi v5)] [] h R H' := by
  obtain ⟨n, hn⟩ := whl_iff.mp hf
  clear hf
  induction n generalizing v2 v3 v5 h with
  | zero => cases hn
  | succ n ih =>
    obtain ⟨o2, hs, hn⟩ := lk_b (show (f_Walk_chosenOf_s12 v1 v2 v3 v5 h).bind (fun o => Sum.elim (itn _ n) some o) = some o from hn)
    exact f_Walk_chosenOf_s12_ok hD hs (fun u0 u1 u2 u3 e => ih (by rw [e] at hn; exact hn)) (fun u0 u1 e => K0 u0 u1 (by rw [e] at hn; exact (Option.some.inj hn).symm))
noncomputable def f_Walk_chosenOf_e (v1 : Int32) (h : xH) : Option (Int32 × xH) :=
  (f_Walk_tellAll v1 h).bind fun h3 =>
  f_Walk_chosenOf_l12 v1 (-1 : Int32) (0 : Int64) (0 : Int32) h3
set_option maxHeartbeats 4000000 in
set_option maxRecDepth 100000 in
theorem f_Walk_chosenOf_e_ok {g : xG} {l : Launch} {d : Nat} {v1 : Int32} {h : xH} {o : (Int32 × xH)} {R : Option xV} {H' : xH} (hD : 2 ≤ d) (hf : f_Walk_chosenOf_e v1 h = some o) (K0 : ∀ (a : Int32) (h1 : xH), o = (a, h1) → R = some (xi a) ∧ H' = h1) : xEv g l d 90 0 [(0, xr 10 (some 0)), (1, xi v1)] [] h R H' := by
  unfold f_Walk_chosenOf_e at hf
  refine xs_aload_n d90_0 rfl ?_
  refine xs_iload_n d90_1 rfl ?_
  obtain ⟨h3, hc2, hf⟩ := lk_b hf
  refine xe_callv0 (as := [xi v1]) (st := []) (h2 := h3) (d2 := d - 1) d90_2 ky90 ml78 st91 (by decide) cn91 rfl na91 (Nat.le_of_ble_eq_true rfl) (by omega) (f_Walk_tellAll_ok (by omega) hc2) ?_
  refine xs_iconst (v := -1) d90_5 (by decide) ?_
  refine xe_istore_n (v := (-1 : Int32)) (ls2 := [(0, xr 10 (some 0)), (1, xi v1), (2, xi (-1 : Int32))]) d90_6 mx90 (by decide) rfl rfl ?_
  refine xs_lconst (v := 0) d90_7 (by decide) ?_
  refine xe_lstore_n (v := (0 : Int64)) (ls2 := [(0, xr 10 (some 0)), (1, xi v1), (2, xi (-1 : Int32)), (3, xl (0 : Int64))]) d90_8 mx90 (by decide) rfl rfl ?_
  refine xs_iconst (v := 0) d90_9 (by decide) ?_
  refine xe_istore (v := (0 : Int32)) (ls2 := [(0, xr 10 (some 0)), (1, xi v1), (2, xi (-1 : Int32)), (3, xl (0 : Int64)), (5, xi (0 : Int32))]) d90_10 mx90 (by decide) rfl rfl ?_
  exact f_Walk_chosenOf_l12_ok hD hf K0
noncomputable def f_Walk_chosenOf (v1 : Int32) (h : xH) : Option (Int32 × xH) := f_Walk_chosenOf_e v1 h
theorem f_Walk_chosenOf_ok {g : xG} {l : Launch} {d : Nat} {v1 : Int32} {h : xH} {r : Int32} {h1 : xH} (hD : 2 ≤ d) (hf : f_Walk_chosenOf v1 h = some (r, h1)) : xC g l d 90 [xr 10 (some 0), xi v1] h (some (xi r)) h1 :=
  xC_of2 (by decide) mx90 (Nat.le_of_ble_eq_true rfl) (f_Walk_chosenOf_e_ok hD hf (fun _ _ e => by cases e; exact ⟨rfl, rfl⟩))
theorem d88_0 : decode (xcode 88) 0 = .ok (.aload_n 0, 1) := by decide +kernel
theorem d88_1 : decode (xcode 88) 1 = .ok (.getfield 12, 3) := by decide +kernel
theorem d88_4 : decode (xcode 88) 4 = .ok (.invokevirtual 66, 3) := by decide +kernel
theorem d88_7 : decode (xcode 88) 7 = .ok (.istore_n 1, 1) := by decide +kernel
theorem d88_8 : decode (xcode 88) 8 = .ok (.iload_n 1, 1) := by decide +kernel
theorem d88_9 : decode (xcode 88) 9 = .ok (.ifCond .ne 10, 3) := by decide +kernel
theorem d88_12 : decode (xcode 88) 12 = .ok (.aload_n 0, 1) := by decide +kernel
theorem d88_13 : decode (xcode 88) 13 = .ok (.iconst 1, 1) := by decide +kernel
theorem d88_14 : decode (xcode 88) 14 = .ok (.putfield 35, 3) := by decide +kernel
theorem d88_17 : decode (xcode 88) 17 = .ok (.iconst (-1), 1) := by decide +kernel
theorem d88_18 : decode (xcode 88) 18 = .ok (.ireturn, 1) := by decide +kernel
theorem d88_19 : decode (xcode 88) 19 = .ok (.aload_n 0, 1) := by decide +kernel
theorem d88_20 : decode (xcode 88) 20 = .ok (.getfield 31, 3) := by decide +kernel
theorem d88_23 : decode (xcode 88) 23 = .ok (.ifnonnull 8, 3) := by decide +kernel
theorem d88_26 : decode (xcode 88) 26 = .ok (.iload_n 1, 1) := by decide +kernel
theorem d88_27 : decode (xcode 88) 27 = .ok (.invokestatic 69, 3) := by decide +kernel
theorem d88_30 : decode (xcode 88) 30 = .ok (.ireturn, 1) := by decide +kernel
theorem d88_31 : decode (xcode 88) 31 = .ok (.aload_n 0, 1) := by decide +kernel
theorem d88_32 : decode (xcode 88) 32 = .ok (.iload_n 1, 1) := by decide +kernel
theorem d88_33 : decode (xcode 88) 33 = .ok (.invokevirtual 73, 3) := by decide +kernel
theorem d88_36 : decode (xcode 88) 36 = .ok (.istore_n 2, 1) := by decide +kernel
theorem d88_37 : decode (xcode 88) 37 = .ok (.aload_n 0, 1) := by decide +kernel
theorem d88_38 : decode (xcode 88) 38 = .ok (.iload_n 2, 1) := by decide +kernel
theorem d88_39 : decode (xcode 88) 39 = .ok (.iconst (-1), 1) := by decide +kernel
theorem d88_40 : decode (xcode 88) 40 = .ok (.if_icmp .ne 17, 3) := by decide +kernel
theorem d88_43 : decode (xcode 88) 43 = .ok (.aload_n 0, 1) := by decide +kernel
theorem d88_44 : decode (xcode 88) 44 = .ok (.getfield 31, 3) := by decide +kernel
theorem d88_47 : decode (xcode 88) 47 = .ok (.getfield 76, 3) := by decide +kernel
theorem d88_50 : decode (xcode 88) 50 = .ok (.ifCond .ne 7, 3) := by decide +kernel
theorem d88_53 : decode (xcode 88) 53 = .ok (.iconst 1, 1) := by decide +kernel
theorem d88_54 : decode (xcode 88) 54 = .ok (.goto 4, 3) := by decide +kernel
theorem d88_57 : decode (xcode 88) 57 = .ok (.iconst 0, 1) := by decide +kernel
theorem d88_58 : decode (xcode 88) 58 = .ok (.putfield 35, 3) := by decide +kernel
theorem d88_61 : decode (xcode 88) 61 = .ok (.iload_n 2, 1) := by decide +kernel
theorem d88_62 : decode (xcode 88) 62 = .ok (.ireturn, 1) := by decide +kernel
noncomputable def f_Walk_chosenNow_b58 (v2 : Int32) (t0 : Int32) (h : xH) : Option (Int32 × xH) :=
  if t0 = 0 ∨ t0 = 1 then (
  xlet (xsI h 10 1 0 t0) fun h15 =>
  some ((v2, h15))) else none
set_option maxHeartbeats 4000000 in
set_option maxRecDepth 100000 in
theorem f_Walk_chosenNow_b58_ok {g : xG} {l : Launch} {d : Nat} {v2 : Int32} {t0 : Int32} {h : xH} {o : (Int32 × xH)} {R : Option xV} {H' : xH} (hD : 3 ≤ d) (hf : f_Walk_chosenNow_b58 v2 t0 h = some o) (K0 : ∀ (a : Int32) (h1 : xH), o = (a, h1) → R = some (xi a) ∧ H' = h1) : xEv g l d 88 58 [(2, xi v2)] [xi t0, xr 10 (some 0)] h R H' := by
  unfold f_Walk_chosenNow_b58 at hf
  obtain ⟨hz16, hf⟩ := lk_g hf
  obtain ⟨h15, eh15, hf⟩ := lk_let hf
  refine xe_putz d88_58 ky88 fl113 fk10_1 ft10_1 hz16 eh15 ?_
  refine xs_iload_n d88_61 rfl ?_
  obtain ⟨eR, eH⟩ := K0 _ _ (Option.some.inj hf).symm
  subst eR; subst eH
  exact xs_iret d88_62 rt88
noncomputable def f_Walk_chosenNow_b57 (v2 : Int32) (h : xH) : Option (Int32 × xH) :=
  f_Walk_chosenNow_b58 v2 (0 : Int32) h
set_option maxHeartbeats 4000000 in
set_option maxRecDepth 100000 in
theorem f_Walk_chosenNow_b57_ok {g : xG} {l : Launch} {d : Nat} {v2 : Int32} {h : xH} {o : (Int32 × xH)} {R : Option xV} {H' : xH} (hD : 3 ≤ d) (hf : f_Walk_chosenNow_b57 v2 h = some o) (K0 : ∀ (a : Int32) (h1 : xH), o = (a, h1) → R = some (xi a) ∧ H' = h1) : xEv g l d 88 57 [(2, xi v2)] [xr 10 (some 0)] h R H' := by
  unfold f_Walk_chosenNow_b57 at hf
  refine xs_iconst (v := 0) d88_57 (by decide) ?_
  exact f_Walk_chosenNow_b58_ok hD hf K0
noncomputable def f_Walk_chosenNow_e (h : xH) : Option (Int32 × xH) :=
  (f_State_looseBits 25 h).bind fun r1 =>
  if r1 = (0 : Int32) then (
  xlet (xsI h 10 1 0 (1 : Int32)) fun h4 =>
  some (((-1 : Int32), h4))) else (
  if h.2.2.1 10 4 0 = none then (
  (f_Walk_leastOf r1 h).bind fun r7 =>
  some ((r7, h))) else (
  (f_Walk_chosenOf r1 h).bind fun q11 =>
  if q11.1 = (-1 : Int32) then (
  (q11.2.2.2.1 10 4 0).bind fun i913 =>
  if (q11.2.1 2 3 i913) = (0 : Int32) then (
  f_Walk_chosenNow_b58 q11.1 (1 : Int32) q11.2) else (
  f_Walk_chosenNow_b57 q11.1 q11.2)) else (
  f_Walk_chosenNow_b57 q11.1 q11.2)))
set_option maxHeartbeats 4000000 in
set_option maxRecDepth 100000 in
theorem f_Walk_chosenNow_e_ok {g : xG} {l : Launch} {d : Nat} {h : xH} {o : (Int32 × xH)} {R : Option xV} {H' : xH} (hD : 3 ≤ d) (hf : f_Walk_chosenNow_e h = some o) (K0 : ∀ (a : Int32) (h1 : xH), o = (a, h1) → R = some (xi a) ∧ H' = h1) : xEv g l d 88 0 [(0, xr 10 (some 0))] [] h R H' := by
  unfold f_Walk_chosenNow_e at hf
  refine xs_aload_n d88_0 rfl ?_
  refine xe_getc (j := 25) d88_1 ky88 fl111 fk10_0 rfl ?_
  obtain ⟨r1, hc2, hf⟩ := lk_b hf
  refine xe_callv1 (as := []) (st := []) (h2 := h) (d2 := d - 1) d88_4 ky88 ml73 st51 (by decide) cn51 rfl na51 (Nat.le_of_ble_eq_true rfl) (by omega) (f_State_looseBits_ok (by omega) hc2) ?_
  refine xe_istore_n (v := r1) (ls2 := [(0, xr 10 (some 0)), (1, xi r1)]) d88_7 mx88 (by decide) rfl rfl ?_
  refine xs_iload_n d88_8 rfl ?_
  rcases lk_if hf with ⟨hc3, hf⟩ | ⟨hc3, hf⟩
  · refine xs_if_ne (tgt := 19) d88_9 (by decide) (fun _ => ?_) (fun hn => absurd hc3 hn)
    refine xs_aload_n d88_12 rfl ?_
    refine xs_iconst (v := 1) d88_13 (by decide) ?_
    obtain ⟨h4, eh4, hf⟩ := lk_let hf
    refine xe_putz d88_14 ky88 fl113 fk10_1 ft10_1 (Or.inr rfl) eh4 ?_
    refine xs_iconst (v := -1) d88_17 (by decide) ?_
    obtain ⟨eR, eH⟩ := K0 _ _ (Option.some.inj hf).symm
    subst eR; subst eH
    exact xs_iret d88_18 rt88
  · refine xs_if_ne (tgt := 19) d88_9 (by decide) (fun hp => absurd hp hc3) (fun _ => ?_)
    refine xs_aload_n d88_19 rfl ?_
    refine xe_getd d88_20 ky88 fl117 fk10_4 ?_
    rcases lk_if hf with ⟨hc6, hf⟩ | ⟨hc6, hf⟩
    · refine xs_nonnull (tgt := 31) d88_23 (by decide) (fun i e => by rw [hc6] at e; cases e) (fun _ => ?_)
      refine xs_iload_n d88_26 rfl ?_
      obtain ⟨r7, hc8, hf⟩ := lk_b hf
      refine xe_calls1 (as := [xi r1]) (st := []) (h2 := h) (d2 := d - 1) d88_27 ky88 ml75 st89 rfl na89 (Nat.le_of_ble_eq_true rfl) (by omega) (f_Walk_leastOf_ok (by omega) hc8) ?_
      obtain ⟨eR, eH⟩ := K0 _ _ (Option.some.inj hf).symm
      subst eR; subst eH
      exact xs_iret d88_30 rt88
    · refine xs_nonnull (tgt := 31) d88_23 (by decide) (fun _ _ => ?_) (fun e => absurd e hc6)
      refine xs_aload_n d88_31 rfl ?_
      refine xs_iload_n d88_32 rfl ?_
      obtain ⟨q11, hc10, hf⟩ := lk_b hf
      refine xe_callv1 (as := [xi r1]) (st := []) (h2 := q11.2) (d2 := d - 1) d88_33 ky88 ml77 st90 (by decide) cn90 rfl na90 (Nat.le_of_ble_eq_true rfl) (by omega) (f_Walk_chosenOf_ok (by omega) hc10) ?_
      refine xe_istore_n (v := q11.1) (ls2 := [(0, xr 10 (some 0)), (1, xi r1), (2, xi q11.1)]) d88_36 mx88 (by decide) rfl rfl ?_
      refine xs_aload_n d88_37 rfl ?_
      refine xs_iload_n d88_38 rfl ?_
      refine xs_iconst (v := -1) d88_39 (by decide) ?_
      rcases lk_if hf with ⟨hc12, hf⟩ | ⟨hc12, hf⟩
      · refine xs_icmp_ne (tgt := 57) d88_40 (by decide) (fun _ => ?_) (fun hn => absurd hc12 hn)
        refine xs_aload_n d88_43 rfl ?_
        refine xe_getd d88_44 ky88 fl117 fk10_4 ?_
        obtain ⟨i913, ei913, hf⟩ := lk_b hf
        rw [ei913]
        refine xe_geti d88_47 ky88 fl66 fk2_3 ?_
        rcases lk_if hf with ⟨hc14, hf⟩ | ⟨hc14, hf⟩
        · refine xs_if_ne (tgt := 57) d88_50 (by decide) (fun _ => ?_) (fun hn => absurd hc14 hn)
          refine xs_iconst (v := 1) d88_53 (by decide) ?_
          refine xs_goto (tgt := 58) d88_54 (by decide) ?_
          refine xs_pick [2] rfl ?_
          exact f_Walk_chosenNow_b58_ok hD hf K0
        · refine xs_if_ne (tgt := 57) d88_50 (by decide) (fun hp => absurd hp hc14) (fun _ => ?_)
          refine xs_pick [2] rfl ?_
          exact f_Walk_chosenNow_b57_ok hD hf K0
      · refine xs_icmp_ne (tgt := 57) d88_40 (by decide) (fun hp => absurd hp hc12) (fun _ => ?_)
        refine xs_pick [2] rfl ?_
        exact f_Walk_chosenNow_b57_ok hD hf K0
noncomputable def f_Walk_chosenNow (h : xH) : Option (Int32 × xH) := f_Walk_chosenNow_e h
theorem f_Walk_chosenNow_ok {g : xG} {l : Launch} {d : Nat} {h : xH} {r : Int32} {h1 : xH} (hD : 3 ≤ d) (hf : f_Walk_chosenNow h = some (r, h1)) : xC g l d 88 [xr 10 (some 0)] h (some (xi r)) h1 :=
  xC_of2 (by decide) mx88 (Nat.le_of_ble_eq_true rfl) (f_Walk_chosenNow_e_ok hD hf (fun _ _ e => by cases e; exact ⟨rfl, rfl⟩))
theorem d87_0 : decode (xcode 87) 0 = .ok (.aload_n 0, 1) := by decide +kernel
theorem d87_1 : decode (xcode 87) 1 = .ok (.getfield 35, 3) := by decide +kernel
theorem d87_4 : decode (xcode 87) 4 = .ok (.ifCond .eq 7, 3) := by decide +kernel
theorem d87_7 : decode (xcode 87) 7 = .ok (.iconst (-1), 1) := by decide +kernel
theorem d87_8 : decode (xcode 87) 8 = .ok (.goto 7, 3) := by decide +kernel
theorem d87_11 : decode (xcode 87) 11 = .ok (.aload_n 0, 1) := by decide +kernel
theorem d87_12 : decode (xcode 87) 12 = .ok (.invokevirtual 47, 3) := by decide +kernel
theorem d87_15 : decode (xcode 87) 15 = .ok (.istore_n 1, 1) := by decide +kernel
theorem d87_16 : decode (xcode 87) 16 = .ok (.iload_n 1, 1) := by decide +kernel
theorem d87_17 : decode (xcode 87) 17 = .ok (.iconst (-1), 1) := by decide +kernel
theorem d87_18 : decode (xcode 87) 18 = .ok (.if_icmp .ne 14, 3) := by decide +kernel
theorem d87_21 : decode (xcode 87) 21 = .ok (.aload_n 0, 1) := by decide +kernel
theorem d87_22 : decode (xcode 87) 22 = .ok (.getfield 12, 3) := by decide +kernel
theorem d87_25 : decode (xcode 87) 25 = .ok (.iconst 1, 1) := by decide +kernel
theorem d87_26 : decode (xcode 87) 26 = .ok (.invokevirtual 51, 3) := by decide +kernel
theorem d87_29 : decode (xcode 87) 29 = .ok (.goto 18, 3) := by decide +kernel
theorem d87_32 : decode (xcode 87) 32 = .ok (.aload_n 0, 1) := by decide +kernel
theorem d87_33 : decode (xcode 87) 33 = .ok (.getfield 12, 3) := by decide +kernel
theorem d87_36 : decode (xcode 87) 36 = .ok (.iload_n 1, 1) := by decide +kernel
theorem d87_37 : decode (xcode 87) 37 = .ok (.aload_n 0, 1) := by decide +kernel
theorem d87_38 : decode (xcode 87) 38 = .ok (.getfield 27, 3) := by decide +kernel
theorem d87_41 : decode (xcode 87) 41 = .ok (.getfield 55, 3) := by decide +kernel
theorem d87_44 : decode (xcode 87) 44 = .ok (.invokevirtual 59, 3) := by decide +kernel
theorem d87_47 : decode (xcode 87) 47 = .ok (.aload_n 0, 1) := by decide +kernel
theorem d87_48 : decode (xcode 87) 48 = .ok (.getfield 12, 3) := by decide +kernel
theorem d87_51 : decode (xcode 87) 51 = .ok (.dup, 1) := by decide +kernel
theorem d87_52 : decode (xcode 87) 52 = .ok (.getfield 63, 3) := by decide +kernel
theorem d87_55 : decode (xcode 87) 55 = .ok (.iconst 1, 1) := by decide +kernel
theorem d87_56 : decode (xcode 87) 56 = .ok (.iadd, 1) := by decide +kernel
theorem d87_57 : decode (xcode 87) 57 = .ok (.putfield 63, 3) := by decide +kernel
theorem d87_60 : decode (xcode 87) 60 = .ok (.iload_n 1, 1) := by decide +kernel
theorem d87_61 : decode (xcode 87) 61 = .ok (.ireturn, 1) := by decide +kernel
noncomputable def f_Walk_goOn_b47 (v1 : Int32) (h : xH) : Option (Int32 × xH) :=
  xlet (xsI h 6 1 25 ((h.1 6 1 25) + (1 : Int32))) fun h9 =>
  some ((v1, h9))
set_option maxHeartbeats 4000000 in
set_option maxRecDepth 100000 in
theorem f_Walk_goOn_b47_ok {g : xG} {l : Launch} {d : Nat} {v1 : Int32} {h : xH} {o : (Int32 × xH)} {R : Option xV} {H' : xH} (hD : 4 ≤ d) (hf : f_Walk_goOn_b47 v1 h = some o) (K0 : ∀ (a : Int32) (h1 : xH), o = (a, h1) → R = some (xi a) ∧ H' = h1) : xEv g l d 87 47 [(0, xr 10 (some 0)), (1, xi v1)] [] h R H' := by
  unfold f_Walk_goOn_b47 at hf
  refine xs_aload_n d87_47 rfl ?_
  refine xe_getc (j := 25) d87_48 ky87 fl111 fk10_0 rfl ?_
  refine xs_dup d87_51 rfl ?_
  refine xe_geti d87_52 ky87 fl72 fk6_1 ?_
  refine xs_iconst (v := 1) d87_55 (by decide) ?_
  refine xs_iadd d87_56 ?_
  obtain ⟨h9, eh9, hf⟩ := lk_let hf
  refine xe_puti d87_57 ky87 fl72 fk6_1 ft6_1 eh9 ?_
  refine xs_iload_n d87_60 rfl ?_
  obtain ⟨eR, eH⟩ := K0 _ _ (Option.some.inj hf).symm
  subst eR; subst eH
  exact xs_iret d87_61 rt87
noncomputable def f_Walk_goOn_b15 (t0 : Int32) (h : xH) : Option (Int32 × xH) :=
  if t0 = (-1 : Int32) then (
  (f_State_pass 25 (1 : Int32) h).bind fun h8 =>
  f_Walk_goOn_b47 t0 h8) else (
  (h.2.2.1 10 3 0).bind fun i910 =>
  (f_State_lift 25 t0 (h.1 8 1 i910) h).bind fun h13 =>
  f_Walk_goOn_b47 t0 h13)
set_option maxHeartbeats 4000000 in
set_option maxRecDepth 100000 in
theorem f_Walk_goOn_b15_ok {g : xG} {l : Launch} {d : Nat} {t0 : Int32} {h : xH} {o : (Int32 × xH)} {R : Option xV} {H' : xH} (hD : 4 ≤ d) (hf : f_Walk_goOn_b15 t0 h = some o) (K0 : ∀ (a : Int32) (h1 : xH), o = (a, h1) → R = some (xi a) ∧ H' = h1) : xEv g l d 87 15 [(0, xr 10 (some 0))] [xi t0] h R H' := by
  unfold f_Walk_goOn_b15 at hf
  refine xe_istore_n (v := t0) (ls2 := [(0, xr 10 (some 0)), (1, xi t0)]) d87_15 mx87 (by decide) rfl rfl ?_
  refine xs_iload_n d87_16 rfl ?_
  refine xs_iconst (v := -1) d87_17 (by decide) ?_
  rcases lk_if hf with ⟨hc5, hf⟩ | ⟨hc5, hf⟩
  · refine xs_icmp_ne (tgt := 32) d87_18 (by decide) (fun _ => ?_) (fun hn => absurd hc5 hn)
    refine xs_aload_n d87_21 rfl ?_
    refine xe_getc (j := 25) d87_22 ky87 fl111 fk10_0 rfl ?_
    refine xs_iconst (v := 1) d87_25 (by decide) ?_
    obtain ⟨h8, hc7, hf⟩ := lk_b hf
    refine xe_callv0 (as := [xi (1 : Int32)]) (st := []) (h2 := h8) (d2 := d - 1) d87_26 ky87 ml87 st54 (by decide) cn54 rfl na54 (Nat.le_of_ble_eq_true rfl) (by omega) (f_State_pass_ok (by omega) hc7) ?_
    refine xs_goto (tgt := 47) d87_29 (by decide) ?_
    exact f_Walk_goOn_b47_ok hD hf K0
  · refine xs_icmp_ne (tgt := 32) d87_18 (by decide) (fun hp => absurd hp hc5) (fun _ => ?_)
    refine xs_aload_n d87_32 rfl ?_
    refine xe_getc (j := 25) d87_33 ky87 fl111 fk10_0 rfl ?_
    refine xs_iload_n d87_36 rfl ?_
    refine xs_aload_n d87_37 rfl ?_
    refine xe_getd d87_38 ky87 fl116 fk10_3 ?_
    obtain ⟨i910, ei910, hf⟩ := lk_b hf
    rw [ei910]
    refine xe_geti d87_41 ky87 fl22 fk8_1 ?_
    obtain ⟨h13, hc12, hf⟩ := lk_b hf
    refine xe_callv0 (as := [xi t0, xi (h.1 8 1 i910)]) (st := []) (h2 := h13) (d2 := d - 1) d87_44 ky87 ml89 st55 (by decide) cn55 rfl na55 (Nat.le_of_ble_eq_true rfl) (by omega) (f_State_lift_ok (by omega) hc12) ?_
    exact f_Walk_goOn_b47_ok hD hf K0
noncomputable def f_Walk_goOn_e (h : xH) : Option (Int32 × xH) :=
  if (h.1 10 1 0) = (0 : Int32) then (
  (f_Walk_chosenNow h).bind fun q4 =>
  f_Walk_goOn_b15 q4.1 q4.2) else (
  f_Walk_goOn_b15 (-1 : Int32) h)
set_option maxHeartbeats 4000000 in
set_option maxRecDepth 100000 in
theorem f_Walk_goOn_e_ok {g : xG} {l : Launch} {d : Nat} {h : xH} {o : (Int32 × xH)} {R : Option xV} {H' : xH} (hD : 4 ≤ d) (hf : f_Walk_goOn_e h = some o) (K0 : ∀ (a : Int32) (h1 : xH), o = (a, h1) → R = some (xi a) ∧ H' = h1) : xEv g l d 87 0 [(0, xr 10 (some 0))] [] h R H' := by
  unfold f_Walk_goOn_e at hf
  refine xs_aload_n d87_0 rfl ?_
  refine xe_geti d87_1 ky87 fl113 fk10_1 ?_
  rcases lk_if hf with ⟨hc1, hf⟩ | ⟨hc1, hf⟩
  · refine xs_if_eq (tgt := 11) d87_4 (by decide) (fun _ => ?_) (fun hn => absurd hc1 hn)
    refine xs_aload_n d87_11 rfl ?_
    obtain ⟨q4, hc3, hf⟩ := lk_b hf
    refine xe_callv1 (as := []) (st := []) (h2 := q4.2) (d2 := d - 1) d87_12 ky87 ml72 st88 (by decide) cn88 rfl na88 (Nat.le_of_ble_eq_true rfl) (by omega) (f_Walk_chosenNow_ok (by omega) hc3) ?_
    exact f_Walk_goOn_b15_ok hD hf K0
  · refine xs_if_eq (tgt := 11) d87_4 (by decide) (fun hp => absurd hp hc1) (fun _ => ?_)
    refine xs_iconst (v := -1) d87_7 (by decide) ?_
    refine xs_goto (tgt := 15) d87_8 (by decide) ?_
    exact f_Walk_goOn_b15_ok hD hf K0
noncomputable def f_Walk_goOn (h : xH) : Option (Int32 × xH) := f_Walk_goOn_e h
theorem f_Walk_goOn_ok {g : xG} {l : Launch} {d : Nat} {h : xH} {r : Int32} {h1 : xH} (hD : 4 ≤ d) (hf : f_Walk_goOn h = some (r, h1)) : xC g l d 87 [xr 10 (some 0)] h (some (xi r)) h1 :=
  xC_of2 (by decide) mx87 (Nat.le_of_ble_eq_true rfl) (f_Walk_goOn_e_ok hD hf (fun _ _ e => by cases e; exact ⟨rfl, rfl⟩))
theorem d93_0 : decode (xcode 93) 0 = .ok (.iload_n 1, 1) := by decide +kernel
theorem d93_1 : decode (xcode 93) 1 = .ok (.istore_n 2, 1) := by decide +kernel
theorem d93_2 : decode (xcode 93) 2 = .ok (.iconst 0, 1) := by decide +kernel
theorem d93_3 : decode (xcode 93) 3 = .ok (.istore_n 3, 1) := by decide +kernel
theorem d93_4 : decode (xcode 93) 4 = .ok (.iload_n 3, 1) := by decide +kernel
theorem d93_5 : decode (xcode 93) 5 = .ok (.bipush 8, 2) := by decide +kernel
theorem d93_7 : decode (xcode 93) 7 = .ok (.if_icmp .ge 96, 3) := by decide +kernel
theorem d93_10 : decode (xcode 93) 10 = .ok (.aload_n 0, 1) := by decide +kernel
theorem d93_11 : decode (xcode 93) 11 = .ok (.getfield 12, 3) := by decide +kernel
theorem d93_14 : decode (xcode 93) 14 = .ok (.invokevirtual 66, 3) := by decide +kernel
theorem d93_17 : decode (xcode 93) 17 = .ok (.istore 4, 2) := by decide +kernel
theorem d93_19 : decode (xcode 93) 19 = .ok (.iload 4, 2) := by decide +kernel
theorem d93_21 : decode (xcode 93) 21 = .ok (.invokestatic 97, 3) := by decide +kernel
theorem d93_24 : decode (xcode 93) 24 = .ok (.istore 5, 2) := by decide +kernel
theorem d93_26 : decode (xcode 93) 26 = .ok (.iload 5, 2) := by decide +kernel
theorem d93_28 : decode (xcode 93) 28 = .ok (.ifCond .ne 5, 3) := by decide +kernel
theorem d93_31 : decode (xcode 93) 31 = .ok (.iload_n 2, 1) := by decide +kernel
theorem d93_32 : decode (xcode 93) 32 = .ok (.ireturn, 1) := by decide +kernel
theorem d93_33 : decode (xcode 93) 33 = .ok (.iload_n 2, 1) := by decide +kernel
theorem d93_34 : decode (xcode 93) 34 = .ok (.i2l, 1) := by decide +kernel
theorem d93_35 : decode (xcode 93) 35 = .ok (.ldc2_w 128, 3) := by decide +kernel
theorem d93_38 : decode (xcode 93) 38 = .ok (.lmul, 1) := by decide +kernel
theorem d93_39 : decode (xcode 93) 39 = .ok (.ldc2_w 130, 3) := by decide +kernel
theorem d93_42 : decode (xcode 93) 42 = .ok (.ladd, 1) := by decide +kernel
theorem d93_43 : decode (xcode 93) 43 = .ok (.ldc2_w 132, 3) := by decide +kernel
theorem d93_46 : decode (xcode 93) 46 = .ok (.land, 1) := by decide +kernel
theorem d93_47 : decode (xcode 93) 47 = .ok (.l2i, 1) := by decide +kernel
theorem d93_48 : decode (xcode 93) 48 = .ok (.istore_n 2, 1) := by decide +kernel
theorem d93_49 : decode (xcode 93) 49 = .ok (.iload_n 2, 1) := by decide +kernel
theorem d93_50 : decode (xcode 93) 50 = .ok (.ldc 134, 2) := by decide +kernel
theorem d93_52 : decode (xcode 93) 52 = .ok (.idiv, 1) := by decide +kernel
theorem d93_53 : decode (xcode 93) 53 = .ok (.iload 5, 2) := by decide +kernel
theorem d93_55 : decode (xcode 93) 55 = .ok (.irem, 1) := by decide +kernel
theorem d93_56 : decode (xcode 93) 56 = .ok (.istore 6, 2) := by decide +kernel
theorem d93_58 : decode (xcode 93) 58 = .ok (.iload 6, 2) := by decide +kernel
theorem d93_60 : decode (xcode 93) 60 = .ok (.ifCond .le 18, 3) := by decide +kernel
theorem d93_63 : decode (xcode 93) 63 = .ok (.iload 4, 2) := by decide +kernel
theorem d93_65 : decode (xcode 93) 65 = .ok (.iload 4, 2) := by decide +kernel
theorem d93_67 : decode (xcode 93) 67 = .ok (.iconst 1, 1) := by decide +kernel
theorem d93_68 : decode (xcode 93) 68 = .ok (.isub, 1) := by decide +kernel
theorem d93_69 : decode (xcode 93) 69 = .ok (.iand, 1) := by decide +kernel
theorem d93_70 : decode (xcode 93) 70 = .ok (.istore 4, 2) := by decide +kernel
theorem d93_72 : decode (xcode 93) 72 = .ok (.iinc 6 (-1), 3) := by decide +kernel
theorem d93_75 : decode (xcode 93) 75 = .ok (.goto (-17), 3) := by decide +kernel
theorem d93_78 : decode (xcode 93) 78 = .ok (.aload_n 0, 1) := by decide +kernel
theorem d93_79 : decode (xcode 93) 79 = .ok (.getfield 12, 3) := by decide +kernel
theorem d93_82 : decode (xcode 93) 82 = .ok (.iload 4, 2) := by decide +kernel
theorem d93_84 : decode (xcode 93) 84 = .ok (.invokestatic 69, 3) := by decide +kernel
theorem d93_87 : decode (xcode 93) 87 = .ok (.aload_n 0, 1) := by decide +kernel
theorem d93_88 : decode (xcode 93) 88 = .ok (.getfield 27, 3) := by decide +kernel
theorem d93_91 : decode (xcode 93) 91 = .ok (.getfield 55, 3) := by decide +kernel
theorem d93_94 : decode (xcode 93) 94 = .ok (.invokevirtual 59, 3) := by decide +kernel
theorem d93_97 : decode (xcode 93) 97 = .ok (.iinc 3 1, 3) := by decide +kernel
theorem d93_100 : decode (xcode 93) 100 = .ok (.goto (-96), 3) := by decide +kernel
theorem d93_103 : decode (xcode 93) 103 = .ok (.iload_n 2, 1) := by decide +kernel
theorem d93_104 : decode (xcode 93) 104 = .ok (.ireturn, 1) := by decide +kernel
noncomputable def f_Walk_goByDraws_b78 (v2 : Int32) (v3 : Int32) (v4 : Int32) (h : xH) : Option ((Int32 × Int32 × xH) ⊕ (Int32 × xH)) :=
  (f_Walk_leastOf v4 h).bind fun r11 =>
  (h.2.2.1 10 3 0).bind fun i913 =>
  (f_State_lift 25 r11 (h.1 8 1 i913) h).bind fun h16 =>
  xlet (v3 + (1 : Int32)) fun v3_17 =>
  some (Sum.inl (v2, v3_17, h16))
set_option maxHeartbeats 4000000 in
set_option maxRecDepth 100000 in
theorem f_Walk_goByDraws_b78_ok {g : xG} {l : Launch} {d : Nat} {v2 : Int32} {v3 : Int32} {v4 : Int32} {h : xH} {o : ((Int32 × Int32 × xH) ⊕ (Int32 × xH))} {R : Option xV} {H' : xH} (hD : 3 ≤ d) (hf : f_Walk_goByDraws_b78 v2 v3 v4 h = some o) (K1 : ∀ (w2 : Int32) (w3 : Int32) (h1 : xH), o = Sum.inl (w2, w3, h1) → xEv g l d 93 4 [(0, xr 10 (some 0)), (2, xi w2), (3, xi w3)] [] h1 R H') (K0 : ∀ (a : Int32) (h1 : xH), o = Sum.inr ((a, h1)) → R = some (xi a) ∧ H' = h1) : xEv g l d 93 78 [(0, xr 10 (some 0)), (2, xi v2), (3, xi v3), (4, xi v4)] [] h R H' := by
  unfold f_Walk_goByDraws_b78 at hf
  refine xs_aload_n d93_78 rfl ?_
  refine xe_getc (j := 25) d93_79 ky93 fl111 fk10_0 rfl ?_
  refine xs_iload d93_82 rfl ?_
  obtain ⟨r11, hc12, hf⟩ := lk_b hf
  refine xe_calls1 (as := [xi v4]) (st := [xr 6 (some 25)]) (h2 := h) (d2 := d - 1) d93_84 ky93 ml75 st89 rfl na89 (Nat.le_of_ble_eq_true rfl) (by omega) (f_Walk_leastOf_ok (by omega) hc12) ?_
  refine xs_aload_n d93_87 rfl ?_
  refine xe_getd d93_88 ky93 fl116 fk10_3 ?_
  obtain ⟨i913, ei913, hf⟩ := lk_b hf
  rw [ei913]
  refine xe_geti d93_91 ky93 fl22 fk8_1 ?_
  obtain ⟨h16, hc15, hf⟩ := lk_b hf
  refine xe_callv0 (as := [xi r11, xi (h.1 8 1 i913)]) (st := []) (h2 := h16) (d2 := d - 1) d93_94 ky93 ml89 st55 (by decide) cn55 rfl na55 (Nat.le_of_ble_eq_true rfl) (by omega) (f_State_lift_ok (by omega) hc15) ?_
  obtain ⟨v3_17, ev3_17, hf⟩ := lk_let hf
  refine xe_iinc (v := v3_17) (b := 1) (ls2 := [(0, xr 10 (some 0)), (2, xi v2), (3, xi v3_17), (4, xi v4)]) d93_97 mx93 (by decide) rfl (by decide) ev3_17 rfl ?_
  refine xs_goto (tgt := 4) d93_100 (by decide) ?_
  refine xs_pick [0, 1, 2] rfl ?_
  exact K1 _ _ _ (Option.some.inj hf).symm
noncomputable def f_Walk_goByDraws_s58 (v2 : Int32) (v3 : Int32) (v4 : Int32) (v6 : Int32) (h : xH) : Option ((Int32 × Int32) ⊕ ((Int32 × Int32 × xH) ⊕ (Int32 × xH))) :=
  if v6 ≤ (0 : Int32) then (
  xup (f_Walk_goByDraws_b78 v2 v3 v4 h)) else (
  xlet (v4 &&& (v4 - (1 : Int32))) fun v4_18 =>
  xlet (v6 + (-1 : Int32)) fun v6_19 =>
  some (Sum.inl (v4_18, v6_19)))
set_option maxHeartbeats 4000000 in
set_option maxRecDepth 100000 in
theorem f_Walk_goByDraws_s58_ok {g : xG} {l : Launch} {d : Nat} {v2 : Int32} {v3 : Int32} {v4 : Int32} {v6 : Int32} {h : xH} {o : ((Int32 × Int32) ⊕ ((Int32 × Int32 × xH) ⊕ (Int32 × xH)))} {R : Option xV} {H' : xH} (hD : 3 ≤ d) (hf : f_Walk_goByDraws_s58 v2 v3 v4 v6 h = some o) (K1 : ∀ (w2 : Int32) (w3 : Int32) (h1 : xH), o = Sum.inr (Sum.inl (w2, w3, h1)) → xEv g l d 93 4 [(0, xr 10 (some 0)), (2, xi w2), (3, xi w3)] [] h1 R H') (K2 : ∀ (w4 : Int32) (w6 : Int32), o = Sum.inl (w4, w6) → xEv g l d 93 58 [(0, xr 10 (some 0)), (2, xi v2), (3, xi v3), (4, xi w4), (6, xi w6)] [] h R H') (K0 : ∀ (a : Int32) (h1 : xH), o = Sum.inr (Sum.inr ((a, h1))) → R = some (xi a) ∧ H' = h1) : xEv g l d 93 58 [(0, xr 10 (some 0)), (2, xi v2), (3, xi v3), (4, xi v4), (6, xi v6)] [] h R H' := by
  unfold f_Walk_goByDraws_s58 at hf
  refine xs_iload d93_58 rfl ?_
  rcases lk_if hf with ⟨hc10, hf⟩ | ⟨hc10, hf⟩
  · refine xs_if_le (tgt := 78) d93_60 (by decide) (fun _ => ?_) (fun hn => absurd hc10 hn)
    refine xs_pick [0, 1, 2, 3] rfl ?_
    obtain ⟨x0, hf, ex0⟩ := lk_up hf
    exact f_Walk_goByDraws_b78_ok hD hf (fun u0 u1 u2 e => K1 u0 u1 u2 (ex0.trans (congrArg Sum.inr e))) (fun u0 u1 e => K0 u0 u1 (ex0.trans (congrArg Sum.inr e)))
  · refine xs_if_le (tgt := 78) d93_60 (by decide) (fun hp => absurd hp hc10) (fun _ => ?_)
    refine xs_iload d93_63 rfl ?_
    refine xs_iload d93_65 rfl ?_
    refine xs_iconst (v := 1) d93_67 (by decide) ?_
    refine xs_isub d93_68 ?_
    refine xs_iand d93_69 ?_
    obtain ⟨v4_18, ev4_18, hf⟩ := lk_let hf
    refine xe_istore (v := v4_18) (ls2 := [(0, xr 10 (some 0)), (2, xi v2), (3, xi v3), (4, xi v4_18), (6, xi v6)]) d93_70 mx93 (by decide) ev4_18 rfl ?_
    obtain ⟨v6_19, ev6_19, hf⟩ := lk_let hf
    refine xe_iinc (v := v6_19) (b := -1) (ls2 := [(0, xr 10 (some 0)), (2, xi v2), (3, xi v3), (4, xi v4_18), (6, xi v6_19)]) d93_72 mx93 (by decide) rfl (by decide) ev6_19 rfl ?_
    refine xs_goto (tgt := 58) d93_75 (by decide) ?_
    exact K2 _ _ (Option.some.inj hf).symm
noncomputable def f_Walk_goByDraws_l58 (v2 : Int32) (v3 : Int32) (v4 : Int32) (v6 : Int32) (h : xH) : Option ((Int32 × Int32 × xH) ⊕ (Int32 × xH)) :=
  whl (fun s => f_Walk_goByDraws_s58 v2 v3 s.1 s.2 h) (v4, v6)
theorem f_Walk_goByDraws_l58_ok {g : xG} {l : Launch} {d : Nat} {v2 : Int32} {v3 : Int32} {v4 : Int32} {v6 : Int32} {h : xH} {o : ((Int32 × Int32 × xH) ⊕ (Int32 × xH))} {R : Option xV} {H' : xH} (hD : 3 ≤ d) (hf : f_Walk_goByDraws_l58 v2 v3 v4 v6 h = some o) (K1 : ∀ (w2 : Int32) (w3 : Int32) (h1 : xH), o = Sum.inl (w2, w3, h1) → xEv g l d 93 4 [(0, xr 10 (some 0)), (2, xi w2), (3, xi w3)] [] h1 R H') (K0 : ∀ (a : Int32) (h1 : xH), o = Sum.inr ((a, h1)) → R = some (xi a) ∧ H' = h1) : xEv g l d 93 58 [(0, xr 10 (some 0)), (2, xi v2), (3, xi v3), (4, xi v4), (6, xi v6)] [] h R H' := by
  obtain ⟨n, hn⟩ := whl_iff.mp hf
  clear hf
  induction n generalizing v4 v6 with
  | zero => cases hn
  | succ n ih =>
    obtain ⟨o2, hs, hn⟩ := lk_b (show (f_Walk_goByDraws_s58 v2 v3 v4 v6 h).bind (fun o => Sum.elim (itn _ n) some o) = some o from hn)
    exact f_Walk_goByDraws_s58_ok hD hs (fun u0 u1 u2 e => K1 u0 u1 u2 (by rw [e] at hn; exact (Option.some.inj hn).symm)) (fun u0 u1 e => ih (by rw [e] at hn; exact hn)) (fun u0 u1 e => K0 u0 u1 (by rw [e] at hn; exact (Option.some.inj hn).symm))
noncomputable def f_Walk_goByDraws_s4 (v2 : Int32) (v3 : Int32) (h : xH) : Option ((Int32 × Int32 × xH) ⊕ (Int32 × xH)) :=
  if (8 : Int32) ≤ v3 then (
  some (Sum.inr ((v2, h)))) else (
  (f_State_looseBits 25 h).bind fun r2 =>
  (f_Integer_bitCount r2 h).bind fun r4 =>
  if r4 = (0 : Int32) then (
  some (Sum.inr ((v2, h)))) else (
  xlet ((((((v2).toInt64) * (1103515245 : Int64)) + (12345 : Int64)) &&& (2147483647 : Int64)).toInt32) fun v2_7 =>
  if ¬ r4 = 0 then (
  xlet ((v2_7 / (65536 : Int32)) - (v2_7 / (65536 : Int32)) / r4 * r4) fun v6_9 =>
  f_Walk_goByDraws_l58 v2_7 v3 r2 v6_9 h) else none))
set_option maxHeartbeats 4000000 in
set_option maxRecDepth 100000 in
theorem f_Walk_goByDraws_s4_ok {g : xG} {l : Launch} {d : Nat} {v2 : Int32} {v3 : Int32} {h : xH} {o : ((Int32 × Int32 × xH) ⊕ (Int32 × xH))} {R : Option xV} {H' : xH} (hD : 3 ≤ d) (hf : f_Walk_goByDraws_s4 v2 v3 h = some o) (K1 : ∀ (w2 : Int32) (w3 : Int32) (h1 : xH), o = Sum.inl (w2, w3, h1) → xEv g l d 93 4 [(0, xr 10 (some 0)), (2, xi w2), (3, xi w3)] [] h1 R H') (K0 : ∀ (a : Int32) (h1 : xH), o = Sum.inr ((a, h1)) → R = some (xi a) ∧ H' = h1) : xEv g l d 93 4 [(0, xr 10 (some 0)), (2, xi v2), (3, xi v3)] [] h R H' := by
  unfold f_Walk_goByDraws_s4 at hf
  refine xs_iload_n d93_4 rfl ?_
  refine xs_bipush (v := 8) d93_5 (by decide) ?_
  rcases lk_if hf with ⟨hc1, hf⟩ | ⟨hc1, hf⟩
  · refine xs_icmp_ge (tgt := 103) d93_7 (by decide) (fun _ => ?_) (fun hn => absurd hc1 hn)
    refine xs_iload_n d93_103 rfl ?_
    obtain ⟨eR, eH⟩ := K0 _ _ (Option.some.inj hf).symm
    subst eR; subst eH
    exact xs_iret d93_104 rt93
  · refine xs_icmp_ge (tgt := 103) d93_7 (by decide) (fun hp => absurd hp hc1) (fun _ => ?_)
    refine xs_aload_n d93_10 rfl ?_
    refine xe_getc (j := 25) d93_11 ky93 fl111 fk10_0 rfl ?_
    obtain ⟨r2, hc3, hf⟩ := lk_b hf
    refine xe_callv1 (as := []) (st := []) (h2 := h) (d2 := d - 1) d93_14 ky93 ml73 st51 (by decide) cn51 rfl na51 (Nat.le_of_ble_eq_true rfl) (by omega) (f_State_looseBits_ok (by omega) hc3) ?_
    refine xe_istore (v := r2) (ls2 := [(0, xr 10 (some 0)), (2, xi v2), (3, xi v3), (4, xi r2)]) d93_17 mx93 (by decide) rfl rfl ?_
    refine xs_iload d93_19 rfl ?_
    obtain ⟨r4, hc5, hf⟩ := lk_b hf
    refine xe_calls1 (as := [xi r2]) (st := []) (h2 := h) (d2 := d - 1) d93_21 ky93 ml79 st255 rfl na255 (Nat.le_of_ble_eq_true rfl) (by omega) (f_Integer_bitCount_ok (by omega) hc5) ?_
    refine xe_istore (v := r4) (ls2 := [(0, xr 10 (some 0)), (2, xi v2), (3, xi v3), (4, xi r2), (5, xi r4)]) d93_24 mx93 (by decide) rfl rfl ?_
    refine xs_iload d93_26 rfl ?_
    rcases lk_if hf with ⟨hc6, hf⟩ | ⟨hc6, hf⟩
    · refine xs_if_ne (tgt := 33) d93_28 (by decide) (fun _ => ?_) (fun hn => absurd hc6 hn)
      refine xs_iload_n d93_31 rfl ?_
      obtain ⟨eR, eH⟩ := K0 _ _ (Option.some.inj hf).symm
      subst eR; subst eH
      exact xs_iret d93_32 rt93
    · refine xs_if_ne (tgt := 33) d93_28 (by decide) (fun hp => absurd hp hc6) (fun _ => ?_)
      refine xs_iload_n d93_33 rfl ?_
      refine xs_i2l d93_34 ?_
      refine xs_ldc2 (v := 1103515245) d93_35 cl10_128 ?_
      refine xs_lmul d93_38 ?_
      refine xs_ldc2 (v := 12345) d93_39 cl10_130 ?_
      refine xs_ladd d93_42 ?_
      refine xs_ldc2 (v := 2147483647) d93_43 cl10_132 ?_
      refine xs_land d93_46 ?_
      refine xs_l2i d93_47 ?_
      obtain ⟨v2_7, ev2_7, hf⟩ := lk_let hf
      refine xe_istore_n (v := v2_7) (ls2 := [(0, xr 10 (some 0)), (2, xi v2_7), (3, xi v3), (4, xi r2), (5, xi r4)]) d93_48 mx93 (by decide) ev2_7 rfl ?_
      refine xs_iload_n d93_49 rfl ?_
      refine xs_ldc (v := 65536) d93_50 cs10_134 ?_
      refine xs_idiv d93_52 (by decide) ?_
      refine xs_iload d93_53 rfl ?_
      obtain ⟨hb8, hf⟩ := lk_g hf
      refine xs_irem d93_55 hb8 ?_
      obtain ⟨v6_9, ev6_9, hf⟩ := lk_let hf
      refine xe_istore (v := v6_9) (ls2 := [(0, xr 10 (some 0)), (2, xi v2_7), (3, xi v3), (4, xi r2), (5, xi r4), (6, xi v6_9)]) d93_56 mx93 (by decide) ev6_9 rfl ?_
      refine xs_pick [0, 1, 2, 3, 5] rfl ?_
      exact f_Walk_goByDraws_l58_ok hD hf K1 K0
noncomputable def f_Walk_goByDraws_l4 (v2 : Int32) (v3 : Int32) (h : xH) : Option (Int32 × xH) :=
  whl (fun s => f_Walk_goByDraws_s4 s.1 s.2.1 s.2.2) (v2, v3, h)
theorem f_Walk_goByDraws_l4_ok {g : xG} {l : Launch} {d : Nat} {v2 : Int32} {v3 : Int32} {h : xH} {o : (Int32 × xH)} {R : Option xV} {H' : xH} (hD : 3 ≤ d) (hf : f_Walk_goByDraws_l4 v2 v3 h = some o) (K0 : ∀ (a : Int32) (h1 : xH), o = (a, h1) → R = some (xi a) ∧ H' = h1) : xEv g l d 93 4 [(0, xr 10 (some 0)), (2, xi v2), (3, xi v3)] [] h R H' := by
  obtain ⟨n, hn⟩ := whl_iff.mp hf
  clear hf
  induction n generalizing v2 v3 h with
  | zero => cases hn
  | succ n ih =>
    obtain ⟨o2, hs, hn⟩ := lk_b (show (f_Walk_goByDraws_s4 v2 v3 h).bind (fun o => Sum.elim (itn _ n) some o) = some o from hn)
    exact f_Walk_goByDraws_s4_ok hD hs (fun u0 u1 u2 e => ih (by rw [e] at hn; exact hn)) (fun u0 u1 e => K0 u0 u1 (by rw [e] at hn; exact (Option.some.inj hn).symm))
noncomputable def f_Walk_goByDraws_e (v1 : Int32) (h : xH) : Option (Int32 × xH) :=
  f_Walk_goByDraws_l4 v1 (0 : Int32) h
set_option maxHeartbeats 4000000 in
set_option maxRecDepth 100000 in
theorem f_Walk_goByDraws_e_ok {g : xG} {l : Launch} {d : Nat} {v1 : Int32} {h : xH} {o : (Int32 × xH)} {R : Option xV} {H' : xH} (hD : 3 ≤ d) (hf : f_Walk_goByDraws_e v1 h = some o) (K0 : ∀ (a : Int32) (h1 : xH), o = (a, h1) → R = some (xi a) ∧ H' = h1) : xEv g l d 93 0 [(0, xr 10 (some 0)), (1, xi v1)] [] h R H' := by
  unfold f_Walk_goByDraws_e at hf
  refine xs_iload_n d93_0 rfl ?_
  refine xe_istore_n (v := v1) (ls2 := [(0, xr 10 (some 0)), (1, xi v1), (2, xi v1)]) d93_1 mx93 (by decide) rfl rfl ?_
  refine xs_iconst (v := 0) d93_2 (by decide) ?_
  refine xe_istore_n (v := (0 : Int32)) (ls2 := [(0, xr 10 (some 0)), (1, xi v1), (2, xi v1), (3, xi (0 : Int32))]) d93_3 mx93 (by decide) rfl rfl ?_
  refine xs_pick [0, 2, 3] rfl ?_
  exact f_Walk_goByDraws_l4_ok hD hf K0
noncomputable def f_Walk_goByDraws (v1 : Int32) (h : xH) : Option (Int32 × xH) := f_Walk_goByDraws_e v1 h
theorem f_Walk_goByDraws_ok {g : xG} {l : Launch} {d : Nat} {v1 : Int32} {h : xH} {r : Int32} {h1 : xH} (hD : 3 ≤ d) (hf : f_Walk_goByDraws v1 h = some (r, h1)) : xC g l d 93 [xr 10 (some 0), xi v1] h (some (xi r)) h1 :=
  xC_of2 (by decide) mx93 (Nat.le_of_ble_eq_true rfl) (f_Walk_goByDraws_e_ok hD hf (fun _ _ e => by cases e; exact ⟨rfl, rfl⟩))
theorem d94_0 : decode (xcode 94) 0 = .ok (.aload_n 0, 1) := by decide +kernel
theorem d94_1 : decode (xcode 94) 1 = .ok (.getfield 10, 3) := by decide +kernel
theorem d94_4 : decode (xcode 94) 4 = .ok (.bipush 20, 2) := by decide +kernel
theorem d94_6 : decode (xcode 94) 6 = .ok (.invokevirtual 99, 3) := by decide +kernel
theorem d94_9 : decode (xcode 94) 9 = .ok (.ifCond .ne 5, 3) := by decide +kernel
theorem d94_12 : decode (xcode 94) 12 = .ok (.iconst (-1), 1) := by decide +kernel
theorem d94_13 : decode (xcode 94) 13 = .ok (.ireturn, 1) := by decide +kernel
theorem d94_14 : decode (xcode 94) 14 = .ok (.aload_n 0, 1) := by decide +kernel
theorem d94_15 : decode (xcode 94) 15 = .ok (.getfield 10, 3) := by decide +kernel
theorem d94_18 : decode (xcode 94) 18 = .ok (.iload_n 1, 1) := by decide +kernel
theorem d94_19 : decode (xcode 94) 19 = .ok (.invokevirtual 103, 3) := by decide +kernel
theorem d94_22 : decode (xcode 94) 22 = .ok (.aload_n 0, 1) := by decide +kernel
theorem d94_23 : decode (xcode 94) 23 = .ok (.getfield 10, 3) := by decide +kernel
theorem d94_26 : decode (xcode 94) 26 = .ok (.iload_n 2, 1) := by decide +kernel
theorem d94_27 : decode (xcode 94) 27 = .ok (.invokevirtual 103, 3) := by decide +kernel
theorem d94_30 : decode (xcode 94) 30 = .ok (.aload_n 0, 1) := by decide +kernel
theorem d94_31 : decode (xcode 94) 31 = .ok (.getfield 10, 3) := by decide +kernel
theorem d94_34 : decode (xcode 94) 34 = .ok (.iload_n 3, 1) := by decide +kernel
theorem d94_35 : decode (xcode 94) 35 = .ok (.invokevirtual 103, 3) := by decide +kernel
theorem d94_38 : decode (xcode 94) 38 = .ok (.aload_n 0, 1) := by decide +kernel
theorem d94_39 : decode (xcode 94) 39 = .ok (.getfield 10, 3) := by decide +kernel
theorem d94_42 : decode (xcode 94) 42 = .ok (.iload 4, 2) := by decide +kernel
theorem d94_44 : decode (xcode 94) 44 = .ok (.invokevirtual 103, 3) := by decide +kernel
theorem d94_47 : decode (xcode 94) 47 = .ok (.aload_n 0, 1) := by decide +kernel
theorem d94_48 : decode (xcode 94) 48 = .ok (.getfield 10, 3) := by decide +kernel
theorem d94_51 : decode (xcode 94) 51 = .ok (.iload 5, 2) := by decide +kernel
theorem d94_53 : decode (xcode 94) 53 = .ok (.invokevirtual 103, 3) := by decide +kernel
theorem d94_56 : decode (xcode 94) 56 = .ok (.aload_n 0, 1) := by decide +kernel
theorem d94_57 : decode (xcode 94) 57 = .ok (.getfield 10, 3) := by decide +kernel
theorem d94_60 : decode (xcode 94) 60 = .ok (.getfield 107, 3) := by decide +kernel
theorem d94_63 : decode (xcode 94) 63 = .ok (.ireturn, 1) := by decide +kernel
noncomputable def f_B_feed_e (v1 : Int32) (v2 : Int32) (v3 : Int32) (v4 : Int32) (v5 : Int32) (h : xH) : Option (Int32 × xH) :=
  (f_Tape_hasRoom (20 : Int32) h).bind fun r1 =>
  if r1 = (0 : Int32) then (
  some (((-1 : Int32), h))) else (
  (f_Tape_put v1 h).bind fun h6 =>
  (f_Tape_put v2 h6).bind fun h9 =>
  (f_Tape_put v3 h9).bind fun h12 =>
  (f_Tape_put v4 h12).bind fun h15 =>
  (f_Tape_put v5 h15).bind fun h18 =>
  some ((h18.1 7 6 0, h18)))
set_option maxHeartbeats 4000000 in
set_option maxRecDepth 100000 in
theorem f_B_feed_e_ok {g : xG} {l : Launch} {d : Nat} {v1 : Int32} {v2 : Int32} {v3 : Int32} {v4 : Int32} {v5 : Int32} {h : xH} {o : (Int32 × xH)} {R : Option xV} {H' : xH} (hD : 1 ≤ d) (hf : f_B_feed_e v1 v2 v3 v4 v5 h = some o) (K0 : ∀ (a : Int32) (h1 : xH), o = (a, h1) → R = some (xi a) ∧ H' = h1) : xEv g l d 94 0 [(0, xr 11 (some 0)), (1, xi v1), (2, xi v2), (3, xi v3), (4, xi v4), (5, xi v5)] [] h R H' := by
  unfold f_B_feed_e at hf
  refine xs_aload_n d94_0 rfl ?_
  refine xe_getc (j := 0) d94_1 ky94 fl147 fk11_0 rfl ?_
  refine xs_bipush (v := 20) d94_4 (by decide) ?_
  obtain ⟨r1, hc2, hf⟩ := lk_b hf
  refine xe_callv1 (as := [xi (20 : Int32)]) (st := []) (h2 := h) (d2 := d - 1) d94_6 ky94 ml1 st56 (by decide) cn56 rfl na56 (Nat.le_of_ble_eq_true rfl) (by omega) (f_Tape_hasRoom_ok (by omega) hc2) ?_
  rcases lk_if hf with ⟨hc3, hf⟩ | ⟨hc3, hf⟩
  · refine xs_if_ne (tgt := 14) d94_9 (by decide) (fun _ => ?_) (fun hn => absurd hc3 hn)
    refine xs_iconst (v := -1) d94_12 (by decide) ?_
    obtain ⟨eR, eH⟩ := K0 _ _ (Option.some.inj hf).symm
    subst eR; subst eH
    exact xs_iret d94_13 rt94
  · refine xs_if_ne (tgt := 14) d94_9 (by decide) (fun hp => absurd hp hc3) (fun _ => ?_)
    refine xs_aload_n d94_14 rfl ?_
    refine xe_getc (j := 0) d94_15 ky94 fl147 fk11_0 rfl ?_
    refine xs_iload_n d94_18 rfl ?_
    obtain ⟨h6, hc5, hf⟩ := lk_b hf
    refine xe_callv0 (as := [xi v1]) (st := []) (h2 := h6) (d2 := d - 1) d94_19 ky94 ml2 st57 (by decide) cn57 rfl na57 (Nat.le_of_ble_eq_true rfl) (by omega) (f_Tape_put_ok (by omega) hc5) ?_
    refine xs_aload_n d94_22 rfl ?_
    refine xe_getc (j := 0) d94_23 ky94 fl147 fk11_0 rfl ?_
    refine xs_iload_n d94_26 rfl ?_
    obtain ⟨h9, hc8, hf⟩ := lk_b hf
    refine xe_callv0 (as := [xi v2]) (st := []) (h2 := h9) (d2 := d - 1) d94_27 ky94 ml2 st57 (by decide) cn57 rfl na57 (Nat.le_of_ble_eq_true rfl) (by omega) (f_Tape_put_ok (by omega) hc8) ?_
    refine xs_aload_n d94_30 rfl ?_
    refine xe_getc (j := 0) d94_31 ky94 fl147 fk11_0 rfl ?_
    refine xs_iload_n d94_34 rfl ?_
    obtain ⟨h12, hc11, hf⟩ := lk_b hf
    refine xe_callv0 (as := [xi v3]) (st := []) (h2 := h12) (d2 := d - 1) d94_35 ky94 ml2 st57 (by decide) cn57 rfl na57 (Nat.le_of_ble_eq_true rfl) (by omega) (f_Tape_put_ok (by omega) hc11) ?_
    refine xs_aload_n d94_38 rfl ?_
    refine xe_getc (j := 0) d94_39 ky94 fl147 fk11_0 rfl ?_
    refine xs_iload d94_42 rfl ?_
    obtain ⟨h15, hc14, hf⟩ := lk_b hf
    refine xe_callv0 (as := [xi v4]) (st := []) (h2 := h15) (d2 := d - 1) d94_44 ky94 ml2 st57 (by decide) cn57 rfl na57 (Nat.le_of_ble_eq_true rfl) (by omega) (f_Tape_put_ok (by omega) hc14) ?_
    refine xs_aload_n d94_47 rfl ?_
    refine xe_getc (j := 0) d94_48 ky94 fl147 fk11_0 rfl ?_
    refine xs_iload d94_51 rfl ?_
    obtain ⟨h18, hc17, hf⟩ := lk_b hf
    refine xe_callv0 (as := [xi v5]) (st := []) (h2 := h18) (d2 := d - 1) d94_53 ky94 ml2 st57 (by decide) cn57 rfl na57 (Nat.le_of_ble_eq_true rfl) (by omega) (f_Tape_put_ok (by omega) hc17) ?_
    refine xs_aload_n d94_56 rfl ?_
    refine xe_getc (j := 0) d94_57 ky94 fl147 fk11_0 rfl ?_
    refine xe_geti d94_60 ky94 fl7 fk7_6 ?_
    obtain ⟨eR, eH⟩ := K0 _ _ (Option.some.inj hf).symm
    subst eR; subst eH
    exact xs_iret d94_63 rt94
noncomputable def f_B_feed (v1 : Int32) (v2 : Int32) (v3 : Int32) (v4 : Int32) (v5 : Int32) (h : xH) : Option (Int32 × xH) := f_B_feed_e v1 v2 v3 v4 v5 h
theorem f_B_feed_ok {g : xG} {l : Launch} {d : Nat} {v1 : Int32} {v2 : Int32} {v3 : Int32} {v4 : Int32} {v5 : Int32} {h : xH} {r : Int32} {h1 : xH} (hD : 1 ≤ d) (hf : f_B_feed v1 v2 v3 v4 v5 h = some (r, h1)) : xC g l d 94 [xr 11 (some 0), xi v1, xi v2, xi v3, xi v4, xi v5] h (some (xi r)) h1 :=
  xC_of2 (by decide) mx94 (Nat.le_of_ble_eq_true rfl) (f_B_feed_e_ok hD hf (fun _ _ e => by cases e; exact ⟨rfl, rfl⟩))
theorem d95_0 : decode (xcode 95) 0 = .ok (.iload_n 1, 1) := by decide +kernel
theorem d95_1 : decode (xcode 95) 1 = .ok (.ifCond .lt 14, 3) := by decide +kernel
theorem d95_4 : decode (xcode 95) 4 = .ok (.iload_n 1, 1) := by decide +kernel
theorem d95_5 : decode (xcode 95) 5 = .ok (.aload_n 0, 1) := by decide +kernel
theorem d95_6 : decode (xcode 95) 6 = .ok (.getfield 10, 3) := by decide +kernel
theorem d95_9 : decode (xcode 95) 9 = .ok (.getfield 107, 3) := by decide +kernel
theorem d95_12 : decode (xcode 95) 12 = .ok (.if_icmp .le 5, 3) := by decide +kernel
theorem d95_15 : decode (xcode 95) 15 = .ok (.iconst (-1), 1) := by decide +kernel
theorem d95_16 : decode (xcode 95) 16 = .ok (.ireturn, 1) := by decide +kernel
theorem d95_17 : decode (xcode 95) 17 = .ok (.aload_n 0, 1) := by decide +kernel
theorem d95_18 : decode (xcode 95) 18 = .ok (.getfield 10, 3) := by decide +kernel
theorem d95_21 : decode (xcode 95) 21 = .ok (.iload_n 1, 1) := by decide +kernel
theorem d95_22 : decode (xcode 95) 22 = .ok (.putfield 107, 3) := by decide +kernel
theorem d95_25 : decode (xcode 95) 25 = .ok (.iload_n 1, 1) := by decide +kernel
theorem d95_26 : decode (xcode 95) 26 = .ok (.ireturn, 1) := by decide +kernel
noncomputable def f_B_end_e (v1 : Int32) (h : xH) : Option (Int32 × xH) :=
  if v1 < (0 : Int32) then (
  some (((-1 : Int32), h))) else (
  if v1 ≤ (h.1 7 6 0) then (
  xlet (xsI h 7 6 0 v1) fun h3 =>
  some ((v1, h3))) else (
  some (((-1 : Int32), h))))
set_option maxHeartbeats 4000000 in
set_option maxRecDepth 100000 in
theorem f_B_end_e_ok {g : xG} {l : Launch} {d : Nat} {v1 : Int32} {h : xH} {o : (Int32 × xH)} {R : Option xV} {H' : xH} (hD : 0 ≤ d) (hf : f_B_end_e v1 h = some o) (K0 : ∀ (a : Int32) (h1 : xH), o = (a, h1) → R = some (xi a) ∧ H' = h1) : xEv g l d 95 0 [(0, xr 11 (some 0)), (1, xi v1)] [] h R H' := by
  unfold f_B_end_e at hf
  refine xs_iload_n d95_0 rfl ?_
  rcases lk_if hf with ⟨hc1, hf⟩ | ⟨hc1, hf⟩
  · refine xs_if_lt (tgt := 15) d95_1 (by decide) (fun _ => ?_) (fun hn => absurd hc1 hn)
    refine xs_iconst (v := -1) d95_15 (by decide) ?_
    obtain ⟨eR, eH⟩ := K0 _ _ (Option.some.inj hf).symm
    subst eR; subst eH
    exact xs_iret d95_16 rt95
  · refine xs_if_lt (tgt := 15) d95_1 (by decide) (fun hp => absurd hp hc1) (fun _ => ?_)
    refine xs_iload_n d95_4 rfl ?_
    refine xs_aload_n d95_5 rfl ?_
    refine xe_getc (j := 0) d95_6 ky95 fl147 fk11_0 rfl ?_
    refine xe_geti d95_9 ky95 fl7 fk7_6 ?_
    rcases lk_if hf with ⟨hc2, hf⟩ | ⟨hc2, hf⟩
    · refine xs_icmp_le (tgt := 17) d95_12 (by decide) (fun _ => ?_) (fun hn => absurd hc2 hn)
      refine xs_aload_n d95_17 rfl ?_
      refine xe_getc (j := 0) d95_18 ky95 fl147 fk11_0 rfl ?_
      refine xs_iload_n d95_21 rfl ?_
      obtain ⟨h3, eh3, hf⟩ := lk_let hf
      refine xe_puti d95_22 ky95 fl7 fk7_6 ft7_6 eh3 ?_
      refine xs_iload_n d95_25 rfl ?_
      obtain ⟨eR, eH⟩ := K0 _ _ (Option.some.inj hf).symm
      subst eR; subst eH
      exact xs_iret d95_26 rt95
    · refine xs_icmp_le (tgt := 17) d95_12 (by decide) (fun hp => absurd hp hc2) (fun _ => ?_)
      refine xs_iconst (v := -1) d95_15 (by decide) ?_
      obtain ⟨eR, eH⟩ := K0 _ _ (Option.some.inj hf).symm
      subst eR; subst eH
      exact xs_iret d95_16 rt95
noncomputable def f_B_end (v1 : Int32) (h : xH) : Option (Int32 × xH) := f_B_end_e v1 h
theorem f_B_end_ok {g : xG} {l : Launch} {d : Nat} {v1 : Int32} {h : xH} {r : Int32} {h1 : xH} (hD : 0 ≤ d) (hf : f_B_end v1 h = some (r, h1)) : xC g l d 95 [xr 11 (some 0), xi v1] h (some (xi r)) h1 :=
  xC_of2 (by decide) mx95 (Nat.le_of_ble_eq_true rfl) (f_B_end_e_ok hD hf (fun _ _ e => by cases e; exact ⟨rfl, rfl⟩))
