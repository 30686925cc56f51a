theorem d37_0 : decode (xcode 37) 0 = .ok (.aload_n 1, 1) := by decide +kernel
theorem d37_1 : decode (xcode 37) 1 = .ok (.getfield 49, 3) := by decide +kernel
theorem d37_4 : decode (xcode 37) 4 = .ok (.aload_n 0, 1) := by decide +kernel
theorem d37_5 : decode (xcode 37) 5 = .ok (.getfield 18, 3) := by decide +kernel
theorem d37_8 : decode (xcode 37) 8 = .ok (.invokestatic 45, 3) := by decide +kernel
theorem d37_11 : decode (xcode 37) 11 = .ok (.aload_n 0, 1) := by decide +kernel
theorem d37_12 : decode (xcode 37) 12 = .ok (.iconst 0, 1) := by decide +kernel
theorem d37_13 : decode (xcode 37) 13 = .ok (.putfield 105, 3) := by decide +kernel
theorem d37_16 : decode (xcode 37) 16 = .ok (.aload_n 0, 1) := by decide +kernel
theorem d37_17 : decode (xcode 37) 17 = .ok (.bipush (-2), 2) := by decide +kernel
theorem d37_19 : decode (xcode 37) 19 = .ok (.putfield 108, 3) := by decide +kernel
theorem d37_22 : decode (xcode 37) 22 = .ok (.iconst 1, 1) := by decide +kernel
theorem d37_23 : decode (xcode 37) 23 = .ok (.istore_n 2, 1) := by decide +kernel
theorem d37_24 : decode (xcode 37) 24 = .ok (.iload_n 2, 1) := by decide +kernel
theorem d37_25 : decode (xcode 37) 25 = .ok (.sipush 256, 3) := by decide +kernel
theorem d37_28 : decode (xcode 37) 28 = .ok (.if_icmp .ge 64, 3) := by decide +kernel
theorem d37_31 : decode (xcode 37) 31 = .ok (.aload_n 0, 1) := by decide +kernel
theorem d37_32 : decode (xcode 37) 32 = .ok (.getfield 21, 3) := by decide +kernel
theorem d37_35 : decode (xcode 37) 35 = .ok (.iload_n 2, 1) := by decide +kernel
theorem d37_36 : decode (xcode 37) 36 = .ok (.iload_n 2, 1) := by decide +kernel
theorem d37_37 : decode (xcode 37) 37 = .ok (.aload_n 1, 1) := by decide +kernel
theorem d37_38 : decode (xcode 37) 38 = .ok (.getfield 68, 3) := by decide +kernel
theorem d37_41 : decode (xcode 37) 41 = .ok (.iconst (-1), 1) := by decide +kernel
theorem d37_42 : decode (xcode 37) 42 = .ok (.ixor, 1) := by decide +kernel
theorem d37_43 : decode (xcode 37) 43 = .ok (.iand, 1) := by decide +kernel
theorem d37_44 : decode (xcode 37) 44 = .ok (.ifCond .ne 12, 3) := by decide +kernel
theorem d37_47 : decode (xcode 37) 47 = .ok (.aload_n 0, 1) := by decide +kernel
theorem d37_48 : decode (xcode 37) 48 = .ok (.iload_n 2, 1) := by decide +kernel
theorem d37_49 : decode (xcode 37) 49 = .ok (.aload_n 1, 1) := by decide +kernel
theorem d37_50 : decode (xcode 37) 50 = .ok (.invokevirtual 111, 3) := by decide +kernel
theorem d37_53 : decode (xcode 37) 53 = .ok (.goto 4, 3) := by decide +kernel
theorem d37_56 : decode (xcode 37) 56 = .ok (.iconst 0, 1) := by decide +kernel
theorem d37_57 : decode (xcode 37) 57 = .ok (.iastore, 1) := by decide +kernel
theorem d37_58 : decode (xcode 37) 58 = .ok (.aload_n 0, 1) := by decide +kernel
theorem d37_59 : decode (xcode 37) 59 = .ok (.getfield 21, 3) := by decide +kernel
theorem d37_62 : decode (xcode 37) 62 = .ok (.iload_n 2, 1) := by decide +kernel
theorem d37_63 : decode (xcode 37) 63 = .ok (.iaload, 1) := by decide +kernel
theorem d37_64 : decode (xcode 37) 64 = .ok (.ifCond .eq 22, 3) := by decide +kernel
theorem d37_67 : decode (xcode 37) 67 = .ok (.aload_n 0, 1) := by decide +kernel
theorem d37_68 : decode (xcode 37) 68 = .ok (.aload_n 0, 1) := by decide +kernel
theorem d37_69 : decode (xcode 37) 69 = .ok (.getfield 18, 3) := by decide +kernel
theorem d37_72 : decode (xcode 37) 72 = .ok (.iload_n 2, 1) := by decide +kernel
theorem d37_73 : decode (xcode 37) 73 = .ok (.iaload, 1) := by decide +kernel
theorem d37_74 : decode (xcode 37) 74 = .ok (.aload_n 0, 1) := by decide +kernel
theorem d37_75 : decode (xcode 37) 75 = .ok (.getfield 21, 3) := by decide +kernel
theorem d37_78 : decode (xcode 37) 78 = .ok (.iload_n 2, 1) := by decide +kernel
theorem d37_79 : decode (xcode 37) 79 = .ok (.iaload, 1) := by decide +kernel
theorem d37_80 : decode (xcode 37) 80 = .ok (.invokestatic 34, 3) := by decide +kernel
theorem d37_83 : decode (xcode 37) 83 = .ok (.invokevirtual 115, 3) := by decide +kernel
theorem d37_86 : decode (xcode 37) 86 = .ok (.iinc 2 1, 3) := by decide +kernel
theorem d37_89 : decode (xcode 37) 89 = .ok (.goto (-65), 3) := by decide +kernel
theorem d37_92 : decode (xcode 37) 92 = .ok (.return_, 1) := by decide +kernel
noncomputable def f_Sets_findChain_b86 (i1 : Nat) (v2 : Int32) (h : xH) : Option ((Int32 × xH) ⊕ xH) :=
  xlet (v2 + (1 : Int32)) fun v2_14 =>
  some (Sum.inl (v2_14, h))
set_option maxHeartbeats 4000000 in
set_option maxRecDepth 100000 in
theorem f_Sets_findChain_b86_ok {g : xG} {l : Launch} {d : Nat} {i1 : Nat} {v2 : Int32} {h : xH} {o : ((Int32 × xH) ⊕ xH)} {R : Option xV} {H' : xH} (hD : 3 ≤ d) (hf : f_Sets_findChain_b86 i1 v2 h = some o) (K1 : ∀ (w2 : Int32) (h1 : xH), o = Sum.inl (w2, h1) → xEv g l d 37 24 [(0, xr 5 (some 0)), (1, xr 6 (some i1)), (2, xi w2)] [] h1 R H') (K0 : ∀ (h1 : xH), o = Sum.inr (h1) → R = none ∧ H' = h1) : xEv g l d 37 86 [(0, xr 5 (some 0)), (1, xr 6 (some i1)), (2, xi v2)] [] h R H' := by
  unfold f_Sets_findChain_b86 at hf
  obtain ⟨v2_14, ev2_14, hf⟩ := lk_let hf
  refine xe_iinc (v := v2_14) (b := 1) (ls2 := [(0, xr 5 (some 0)), (1, xr 6 (some i1)), (2, xi v2_14)]) d37_86 mx37 (by decide) rfl (by decide) ev2_14 rfl ?_
  refine xs_goto (tgt := 24) d37_89 (by decide) ?_
  exact K1 _ _ (Option.some.inj hf).symm
noncomputable def f_Sets_findChain_b57 (i1 : Nat) (v2 : Int32) (t0 : Int32) (t1 : Int32) (h : xH) : Option ((Int32 × xH) ⊕ xH) :=
  if xib t1 256 then (
  xlet (xsA h 25 0 (upd (h.2.2.2.1 25 0) (t1).toNatClampNeg t0)) fun h11 =>
  if xib v2 256 then (
  if (h11.2.2.2.1 25 0 (v2).toNatClampNeg) = (0 : Int32) then (
  f_Sets_findChain_b86 i1 v2 h11) else (
  if xib v2 256 then (
  if xib v2 256 then (
  (f_Integer_numberOfTrailingZeros (h11.2.2.2.1 25 0 (v2).toNatClampNeg) h11).bind fun r17 =>
  (f_Sets_keepChain (h11.2.2.2.1 24 0 (v2).toNatClampNeg) r17 h11).bind fun h21 =>
  f_Sets_findChain_b86 i1 v2 h21) else none) else none)) else none) else none
set_option maxHeartbeats 4000000 in
set_option maxRecDepth 100000 in
theorem f_Sets_findChain_b57_ok {g : xG} {l : Launch} {d : Nat} {i1 : Nat} {v2 : Int32} {t0 : Int32} {t1 : Int32} {h : xH} {o : ((Int32 × xH) ⊕ xH)} {R : Option xV} {H' : xH} (hD : 3 ≤ d) (hf : f_Sets_findChain_b57 i1 v2 t0 t1 h = some o) (K1 : ∀ (w2 : Int32) (h1 : xH), o = Sum.inl (w2, h1) → xEv g l d 37 24 [(0, xr 5 (some 0)), (1, xr 6 (some i1)), (2, xi w2)] [] h1 R H') (K0 : ∀ (h1 : xH), o = Sum.inr (h1) → R = none ∧ H' = h1) : xEv g l d 37 57 [(0, xr 5 (some 0)), (1, xr 6 (some i1)), (2, xi v2)] [xi t0, xi t1, xr 25 (some 0)] h R H' := by
  unfold f_Sets_findChain_b57 at hf
  obtain ⟨hin10, hf⟩ := lk_g hf
  obtain ⟨h11, eh11, hf⟩ := lk_let hf
  refine xe_iast d37_57 (by decide) ak25 hin10  eh11 ?_
  refine xs_aload_n d37_58 rfl ?_
  refine xe_getc (j := 0) d37_59 ky37 fl136 fk5_10 rfl ?_
  refine xs_iload_n d37_62 rfl ?_
  obtain ⟨hin12, hf⟩ := lk_g hf
  refine xe_iald d37_63 (by decide) ak25 hin12 ?_
  rcases lk_if hf with ⟨hc13, hf⟩ | ⟨hc13, hf⟩
  · refine xs_if_eq (tgt := 86) d37_64 (by decide) (fun _ => ?_) (fun hn => absurd hc13 hn)
    exact f_Sets_findChain_b86_ok hD hf K1 K0
  · refine xs_if_eq (tgt := 86) d37_64 (by decide) (fun hp => absurd hp hc13) (fun _ => ?_)
    refine xs_aload_n d37_67 rfl ?_
    refine xs_aload_n d37_68 rfl ?_
    refine xe_getc (j := 0) d37_69 ky37 fl135 fk5_9 rfl ?_
    refine xs_iload_n d37_72 rfl ?_
    obtain ⟨hin15, hf⟩ := lk_g hf
    refine xe_iald d37_73 (by decide) ak24 hin15 ?_
    refine xs_aload_n d37_74 rfl ?_
    refine xe_getc (j := 0) d37_75 ky37 fl136 fk5_10 rfl ?_
    refine xs_iload_n d37_78 rfl ?_
    obtain ⟨hin16, hf⟩ := lk_g hf
    refine xe_iald d37_79 (by decide) ak25 hin16 ?_
    obtain ⟨r17, hc18, hf⟩ := lk_b hf
    refine xe_calls1 (as := [xi (h11.2.2.2.1 25 0 (v2).toNatClampNeg)]) (st := [xi (h11.2.2.2.1 24 0 (v2).toNatClampNeg), xr 5 (some 0)]) (h2 := h11) (d2 := d - 1) d37_80 ky37 ml116 st254 rfl na254 (Nat.le_of_ble_eq_true rfl) (by omega) (f_Integer_numberOfTrailingZeros_ok (by omega) hc18) ?_
    obtain ⟨h21, hc20, hf⟩ := lk_b hf
    refine xe_callv0 (as := [xi (h11.2.2.2.1 24 0 (v2).toNatClampNeg), xi r17]) (st := []) (h2 := h21) (d2 := d - 1) d37_83 ky37 ml129 st38 (by decide) cn38 rfl na38 (Nat.le_of_ble_eq_true rfl) (by omega) (f_Sets_keepChain_ok (by omega) hc20) ?_
    exact f_Sets_findChain_b86_ok hD hf K1 K0
noncomputable def f_Sets_findChain_s24 (i1 : Nat) (v2 : Int32) (h : xH) : Option ((Int32 × xH) ⊕ xH) :=
  if (256 : Int32) ≤ v2 then (
  some (Sum.inr (h))) else (
  if (v2 &&& ((h.1 6 2 i1) ^^^ (-1 : Int32))) = (0 : Int32) then (
  (f_Sets_beginnersOf v2 i1 h).bind fun r8 =>
  f_Sets_findChain_b57 i1 v2 r8 v2 h) else (
  f_Sets_findChain_b57 i1 v2 (0 : Int32) v2 h))
set_option maxHeartbeats 4000000 in
set_option maxRecDepth 100000 in
theorem f_Sets_findChain_s24_ok {g : xG} {l : Launch} {d : Nat} {i1 : Nat} {v2 : Int32} {h : xH} {o : ((Int32 × xH) ⊕ xH)} {R : Option xV} {H' : xH} (hD : 3 ≤ d) (hf : f_Sets_findChain_s24 i1 v2 h = some o) (K1 : ∀ (w2 : Int32) (h1 : xH), o = Sum.inl (w2, h1) → xEv g l d 37 24 [(0, xr 5 (some 0)), (1, xr 6 (some i1)), (2, xi w2)] [] h1 R H') (K0 : ∀ (h1 : xH), o = Sum.inr (h1) → R = none ∧ H' = h1) : xEv g l d 37 24 [(0, xr 5 (some 0)), (1, xr 6 (some i1)), (2, xi v2)] [] h R H' := by
  unfold f_Sets_findChain_s24 at hf
  refine xs_iload_n d37_24 rfl ?_
  refine xs_sipush (v := 256) d37_25 (by decide) ?_
  rcases lk_if hf with ⟨hc6, hf⟩ | ⟨hc6, hf⟩
  · refine xs_icmp_ge (tgt := 92) d37_28 (by decide) (fun _ => ?_) (fun hn => absurd hc6 hn)
    obtain ⟨eR, eH⟩ := K0 _ (Option.some.inj hf).symm
    subst eR; subst eH
    exact xs_vret d37_92 rt37
  · refine xs_icmp_ge (tgt := 92) d37_28 (by decide) (fun hp => absurd hp hc6) (fun _ => ?_)
    refine xs_aload_n d37_31 rfl ?_
    refine xe_getc (j := 0) d37_32 ky37 fl136 fk5_10 rfl ?_
    refine xs_iload_n d37_35 rfl ?_
    refine xs_iload_n d37_36 rfl ?_
    refine xs_aload_n d37_37 rfl ?_
    refine xe_geti d37_38 ky37 fl76 fk6_2 ?_
    refine xs_iconst (v := -1) d37_41 (by decide) ?_
    refine xs_ixor d37_42 ?_
    refine xs_iand d37_43 ?_
    rcases lk_if hf with ⟨hc7, hf⟩ | ⟨hc7, hf⟩
    · refine xs_if_ne (tgt := 56) d37_44 (by decide) (fun _ => ?_) (fun hn => absurd hc7 hn)
      refine xs_aload_n d37_47 rfl ?_
      refine xs_iload_n d37_48 rfl ?_
      refine xs_aload_n d37_49 rfl ?_
      obtain ⟨r8, hc9, hf⟩ := lk_b hf
      refine xe_callv1 (as := [xi v2, xr 6 (some i1)]) (st := [xi v2, xr 25 (some 0)]) (h2 := h) (d2 := d - 1) d37_50 ky37 ml127 st39 (by decide) cn39 rfl na39 (Nat.le_of_ble_eq_true rfl) (by omega) (f_Sets_beginnersOf_ok (by omega) hc9) ?_
      refine xs_goto (tgt := 57) d37_53 (by decide) ?_
      exact f_Sets_findChain_b57_ok hD hf K1 K0
    · refine xs_if_ne (tgt := 56) d37_44 (by decide) (fun hp => absurd hp hc7) (fun _ => ?_)
      refine xs_iconst (v := 0) d37_56 (by decide) ?_
      exact f_Sets_findChain_b57_ok hD hf K1 K0
noncomputable def f_Sets_findChain_l24 (i1 : Nat) (v2 : Int32) (h : xH) : Option xH :=
  whl (fun s => f_Sets_findChain_s24 i1 s.1 s.2) (v2, h)
theorem f_Sets_findChain_l24_ok {g : xG} {l : Launch} {d : Nat} {i1 : Nat} {v2 : Int32} {h : xH} {o : xH} {R : Option xV} {H' : xH} (hD : 3 ≤ d) (hf : f_Sets_findChain_l24 i1 v2 h = some o) (K0 : ∀ (h1 : xH), o = h1 → R = none ∧ H' = h1) : xEv g l d 37 24 [(0, xr 5 (some 0)), (1, xr 6 (some i1)), (2, xi v2)] [] h R H' := by
  obtain ⟨n, hn⟩ := whl_iff.mp hf
  clear hf
  induction n generalizing v2 h with
  | zero => cases hn
  | succ n ih =>
    obtain ⟨o2, hs, hn⟩ := lk_b (show (f_Sets_findChain_s24 i1 v2 h).bind (fun o => Sum.elim (itn _ n) some o) = some o from hn)
    exact f_Sets_findChain_s24_ok hD hs (fun u0 u1 e => ih (by rw [e] at hn; exact hn)) (fun u0 e => K0 u0 (by rw [e] at hn; exact (Option.some.inj hn).symm))
noncomputable def f_Sets_findChain_e (i1 : Nat) (h : xH) : Option xH :=
  (f_Sets_addUp_32_24 i1 h).bind fun h3 =>
  xlet (xsI h3 5 4 0 (0 : Int32)) fun h4 =>
  xlet (xsI h4 5 5 0 (-2 : Int32)) fun h5 =>
  f_Sets_findChain_l24 i1 (1 : Int32) h5
set_option maxHeartbeats 4000000 in
set_option maxRecDepth 100000 in
theorem f_Sets_findChain_e_ok {g : xG} {l : Launch} {d : Nat} {i1 : Nat} {h : xH} {o : xH} {R : Option xV} {H' : xH} (hD : 3 ≤ d) (hf : f_Sets_findChain_e i1 h = some o) (K0 : ∀ (h1 : xH), o = h1 → R = none ∧ H' = h1) : xEv g l d 37 0 [(0, xr 5 (some 0)), (1, xr 6 (some i1))] [] h R H' := by
  unfold f_Sets_findChain_e at hf
  refine xs_aload_n d37_0 rfl ?_
  refine xe_getc (j := i1) d37_1 ky37 fl92 fk6_7 (by omega) ?_
  refine xs_aload_n d37_4 rfl ?_
  refine xe_getc (j := 0) d37_5 ky37 fl135 fk5_9 rfl ?_
  obtain ⟨h3, hc2, hf⟩ := lk_b hf
  refine xe_calls0 (as := [xr 32 (some i1), xr 24 (some 0)]) (st := []) (h2 := h3) (d2 := d - 1) d37_8 ky37 ml115 st29 rfl na29 (Nat.le_of_ble_eq_true rfl) (by omega) (f_Sets_addUp_32_24_ok (by omega) hc2) ?_
  refine xs_aload_n d37_11 rfl ?_
  refine xs_iconst (v := 0) d37_12 (by decide) ?_
  obtain ⟨h4, eh4, hf⟩ := lk_let hf
  refine xe_puti d37_13 ky37 fl126 fk5_4 ft5_4 eh4 ?_
  refine xs_aload_n d37_16 rfl ?_
  refine xs_bipush (v := -2) d37_17 (by decide) ?_
  obtain ⟨h5, eh5, hf⟩ := lk_let hf
  refine xe_puti d37_19 ky37 fl128 fk5_5 ft5_5 eh5 ?_
  refine xs_iconst (v := 1) d37_22 (by decide) ?_
  refine xe_istore_n (v := (1 : Int32)) (ls2 := [(0, xr 5 (some 0)), (1, xr 6 (some i1)), (2, xi (1 : Int32))]) d37_23 mx37 (by decide) rfl rfl ?_
  exact f_Sets_findChain_l24_ok hD hf K0
noncomputable def f_Sets_findChain (i1 : Nat) (h : xH) : Option xH := f_Sets_findChain_e i1 h
theorem f_Sets_findChain_ok {g : xG} {l : Launch} {d : Nat} {i1 : Nat} {h : xH} {h1 : xH} (hD : 3 ≤ d) (hf : f_Sets_findChain i1 h = some h1) : xC g l d 37 [xr 5 (some 0), xr 6 (some i1)] h none h1 :=
  xC_of (by decide) (Nat.le_of_ble_eq_true rfl) (f_Sets_findChain_e_ok hD hf (fun _ e => ⟨rfl, e⟩))
theorem d41_0 : decode (xcode 41) 0 = .ok (.iconst 0, 1) := by decide +kernel
theorem d41_1 : decode (xcode 41) 1 = .ok (.istore_n 3, 1) := by decide +kernel
theorem d41_2 : decode (xcode 41) 2 = .ok (.iload_n 3, 1) := by decide +kernel
theorem d41_3 : decode (xcode 41) 3 = .ok (.bipush 8, 2) := by decide +kernel
theorem d41_5 : decode (xcode 41) 5 = .ok (.if_icmp .ge 32, 3) := by decide +kernel
theorem d41_8 : decode (xcode 41) 8 = .ok (.aload_n 0, 1) := by decide +kernel
theorem d41_9 : decode (xcode 41) 9 = .ok (.getfield 31, 3) := by decide +kernel
theorem d41_12 : decode (xcode 41) 12 = .ok (.iload_n 3, 1) := by decide +kernel
theorem d41_13 : decode (xcode 41) 13 = .ok (.iload_n 1, 1) := by decide +kernel
theorem d41_14 : decode (xcode 41) 14 = .ok (.iload_n 3, 1) := by decide +kernel
theorem d41_15 : decode (xcode 41) 15 = .ok (.invokestatic 78, 3) := by decide +kernel
theorem d41_18 : decode (xcode 41) 18 = .ok (.ifCond .eq 11, 3) := by decide +kernel
theorem d41_21 : decode (xcode 41) 21 = .ok (.aload_n 2, 1) := by decide +kernel
theorem d41_22 : decode (xcode 41) 22 = .ok (.iload_n 3, 1) := by decide +kernel
theorem d41_23 : decode (xcode 41) 23 = .ok (.iaload, 1) := by decide +kernel
theorem d41_24 : decode (xcode 41) 24 = .ok (.iload_n 1, 1) := by decide +kernel
theorem d41_25 : decode (xcode 41) 25 = .ok (.iand, 1) := by decide +kernel
theorem d41_26 : decode (xcode 41) 26 = .ok (.goto 4, 3) := by decide +kernel
theorem d41_29 : decode (xcode 41) 29 = .ok (.iconst 0, 1) := by decide +kernel
theorem d41_30 : decode (xcode 41) 30 = .ok (.iastore, 1) := by decide +kernel
theorem d41_31 : decode (xcode 41) 31 = .ok (.iinc 3 1, 3) := by decide +kernel
theorem d41_34 : decode (xcode 41) 34 = .ok (.goto (-32), 3) := by decide +kernel
theorem d41_37 : decode (xcode 41) 37 = .ok (.iconst 0, 1) := by decide +kernel
theorem d41_38 : decode (xcode 41) 38 = .ok (.istore_n 3, 1) := by decide +kernel
theorem d41_39 : decode (xcode 41) 39 = .ok (.iload_n 3, 1) := by decide +kernel
theorem d41_40 : decode (xcode 41) 40 = .ok (.bipush 8, 2) := by decide +kernel
theorem d41_42 : decode (xcode 41) 42 = .ok (.if_icmp .ge 55, 3) := by decide +kernel
theorem d41_45 : decode (xcode 41) 45 = .ok (.iconst 0, 1) := by decide +kernel
theorem d41_46 : decode (xcode 41) 46 = .ok (.istore 4, 2) := by decide +kernel
theorem d41_48 : decode (xcode 41) 48 = .ok (.iload 4, 2) := by decide +kernel
theorem d41_50 : decode (xcode 41) 50 = .ok (.bipush 8, 2) := by decide +kernel
theorem d41_52 : decode (xcode 41) 52 = .ok (.if_icmp .ge 39, 3) := by decide +kernel
theorem d41_55 : decode (xcode 41) 55 = .ok (.aload_n 0, 1) := by decide +kernel
theorem d41_56 : decode (xcode 41) 56 = .ok (.getfield 31, 3) := by decide +kernel
theorem d41_59 : decode (xcode 41) 59 = .ok (.iload 4, 2) := by decide +kernel
theorem d41_61 : decode (xcode 41) 61 = .ok (.iaload, 1) := by decide +kernel
theorem d41_62 : decode (xcode 41) 62 = .ok (.iload_n 3, 1) := by decide +kernel
theorem d41_63 : decode (xcode 41) 63 = .ok (.invokestatic 78, 3) := by decide +kernel
theorem d41_66 : decode (xcode 41) 66 = .ok (.ifCond .eq 19, 3) := by decide +kernel
theorem d41_69 : decode (xcode 41) 69 = .ok (.aload_n 0, 1) := by decide +kernel
theorem d41_70 : decode (xcode 41) 70 = .ok (.getfield 31, 3) := by decide +kernel
theorem d41_73 : decode (xcode 41) 73 = .ok (.iload 4, 2) := by decide +kernel
theorem d41_75 : decode (xcode 41) 75 = .ok (.dup2, 1) := by decide +kernel
theorem d41_76 : decode (xcode 41) 76 = .ok (.iaload, 1) := by decide +kernel
theorem d41_77 : decode (xcode 41) 77 = .ok (.aload_n 0, 1) := by decide +kernel
theorem d41_78 : decode (xcode 41) 78 = .ok (.getfield 31, 3) := by decide +kernel
theorem d41_81 : decode (xcode 41) 81 = .ok (.iload_n 3, 1) := by decide +kernel
theorem d41_82 : decode (xcode 41) 82 = .ok (.iaload, 1) := by decide +kernel
theorem d41_83 : decode (xcode 41) 83 = .ok (.ior, 1) := by decide +kernel
theorem d41_84 : decode (xcode 41) 84 = .ok (.iastore, 1) := by decide +kernel
theorem d41_85 : decode (xcode 41) 85 = .ok (.iinc 4 1, 3) := by decide +kernel
theorem d41_88 : decode (xcode 41) 88 = .ok (.goto (-40), 3) := by decide +kernel
theorem d41_91 : decode (xcode 41) 91 = .ok (.iinc 3 1, 3) := by decide +kernel
theorem d41_94 : decode (xcode 41) 94 = .ok (.goto (-55), 3) := by decide +kernel
theorem d41_97 : decode (xcode 41) 97 = .ok (.iconst 0, 1) := by decide +kernel
theorem d41_98 : decode (xcode 41) 98 = .ok (.istore_n 3, 1) := by decide +kernel
theorem d41_99 : decode (xcode 41) 99 = .ok (.iconst 0, 1) := by decide +kernel
theorem d41_100 : decode (xcode 41) 100 = .ok (.istore 4, 2) := by decide +kernel
theorem d41_102 : decode (xcode 41) 102 = .ok (.iload 4, 2) := by decide +kernel
theorem d41_104 : decode (xcode 41) 104 = .ok (.bipush 8, 2) := by decide +kernel
theorem d41_106 : decode (xcode 41) 106 = .ok (.if_icmp .ge 24, 3) := by decide +kernel
theorem d41_109 : decode (xcode 41) 109 = .ok (.iload_n 3, 1) := by decide +kernel
theorem d41_110 : decode (xcode 41) 110 = .ok (.aload_n 0, 1) := by decide +kernel
theorem d41_111 : decode (xcode 41) 111 = .ok (.getfield 31, 3) := by decide +kernel
theorem d41_114 : decode (xcode 41) 114 = .ok (.iload 4, 2) := by decide +kernel
theorem d41_116 : decode (xcode 41) 116 = .ok (.iaload, 1) := by decide +kernel
theorem d41_117 : decode (xcode 41) 117 = .ok (.iconst 1, 1) := by decide +kernel
theorem d41_118 : decode (xcode 41) 118 = .ok (.iload 4, 2) := by decide +kernel
theorem d41_120 : decode (xcode 41) 120 = .ok (.ishl, 1) := by decide +kernel
theorem d41_121 : decode (xcode 41) 121 = .ok (.iand, 1) := by decide +kernel
theorem d41_122 : decode (xcode 41) 122 = .ok (.ior, 1) := by decide +kernel
theorem d41_123 : decode (xcode 41) 123 = .ok (.istore_n 3, 1) := by decide +kernel
theorem d41_124 : decode (xcode 41) 124 = .ok (.iinc 4 1, 3) := by decide +kernel
theorem d41_127 : decode (xcode 41) 127 = .ok (.goto (-25), 3) := by decide +kernel
theorem d41_130 : decode (xcode 41) 130 = .ok (.iload_n 3, 1) := by decide +kernel
theorem d41_131 : decode (xcode 41) 131 = .ok (.ireturn, 1) := by decide +kernel
noncomputable def f_Sets_ringsAmong_30_s102 (i2 : Nat) (v3 : Int32) (v4 : Int32) (h : xH) : Option ((Int32 × Int32) ⊕ (Int32 × xH)) :=
  if (8 : Int32) ≤ v4 then (
  some (Sum.inr ((v3, h)))) else (
  if xib v4 8 then (
  xlet (v3 ||| ((h.2.2.2.1 28 0 (v4).toNatClampNeg) &&& ((1 : Int32) <<< (v4 &&& 31)))) fun v3_5 =>
  xlet (v4 + (1 : Int32)) fun v4_6 =>
  some (Sum.inl (v3_5, v4_6))) else none)
set_option maxHeartbeats 4000000 in
set_option maxRecDepth 100000 in
theorem f_Sets_ringsAmong_30_s102_ok {g : xG} {l : Launch} {d : Nat} {i2 : Nat} {v3 : Int32} {v4 : Int32} {h : xH} {o : ((Int32 × Int32) ⊕ (Int32 × xH))} {R : Option xV} {H' : xH} (hD : 1 ≤ d) (hf : f_Sets_ringsAmong_30_s102 i2 v3 v4 h = some o) (K1 : ∀ (w3 : Int32) (w4 : Int32), o = Sum.inl (w3, w4) → xEv g l d 41 102 [(0, xr 5 (some 0)), (3, xi w3), (4, xi w4)] [] h R H') (K0 : ∀ (a : Int32) (h1 : xH), o = Sum.inr ((a, h1)) → R = some (xi a) ∧ H' = h1) : xEv g l d 41 102 [(0, xr 5 (some 0)), (3, xi v3), (4, xi v4)] [] h R H' := by
  unfold f_Sets_ringsAmong_30_s102 at hf
  refine xs_iload d41_102 rfl ?_
  refine xs_bipush (v := 8) d41_104 (by decide) ?_
  rcases lk_if hf with ⟨hc3, hf⟩ | ⟨hc3, hf⟩
  · refine xs_icmp_ge (tgt := 130) d41_106 (by decide) (fun _ => ?_) (fun hn => absurd hc3 hn)
    refine xs_iload_n d41_130 rfl ?_
    obtain ⟨eR, eH⟩ := K0 _ _ (Option.some.inj hf).symm
    subst eR; subst eH
    exact xs_iret d41_131 rt41
  · refine xs_icmp_ge (tgt := 130) d41_106 (by decide) (fun hp => absurd hp hc3) (fun _ => ?_)
    refine xs_iload_n d41_109 rfl ?_
    refine xs_aload_n d41_110 rfl ?_
    refine xe_getc (j := 0) d41_111 ky41 fl139 fk5_13 rfl ?_
    refine xs_iload d41_114 rfl ?_
    obtain ⟨hin4, hf⟩ := lk_g hf
    refine xe_iald d41_116 (by decide) ak28 hin4 ?_
    refine xs_iconst (v := 1) d41_117 (by decide) ?_
    refine xs_iload d41_118 rfl ?_
    refine xs_ishl d41_120 ?_
    refine xs_iand d41_121 ?_
    refine xs_ior d41_122 ?_
    obtain ⟨v3_5, ev3_5, hf⟩ := lk_let hf
    refine xe_istore_n (v := v3_5) (ls2 := [(0, xr 5 (some 0)), (3, xi v3_5), (4, xi v4)]) d41_123 mx41 (by decide) ev3_5 rfl ?_
    obtain ⟨v4_6, ev4_6, hf⟩ := lk_let hf
    refine xe_iinc (v := v4_6) (b := 1) (ls2 := [(0, xr 5 (some 0)), (3, xi v3_5), (4, xi v4_6)]) d41_124 mx41 (by decide) rfl (by decide) ev4_6 rfl ?_
    refine xs_goto (tgt := 102) d41_127 (by decide) ?_
    exact K1 _ _ (Option.some.inj hf).symm
noncomputable def f_Sets_ringsAmong_30_l102 (i2 : Nat) (v3 : Int32) (v4 : Int32) (h : xH) : Option (Int32 × xH) :=
  whl (fun s => f_Sets_ringsAmong_30_s102 i2 s.1 s.2 h) (v3, v4)
theorem f_Sets_ringsAmong_30_l102_ok {g : xG} {l : Launch} {d : Nat} {i2 : Nat} {v3 : Int32} {v4 : Int32} {h : xH} {o : (Int32 × xH)} {R : Option xV} {H' : xH} (hD : 1 ≤ d) (hf : f_Sets_ringsAmong_30_l102 i2 v3 v4 h = some o) (K0 : ∀ (a : Int32) (h1 : xH), o = (a, h1) → R = some (xi a) ∧ H' = h1) : xEv g l d 41 102 [(0, xr 5 (some 0)), (3, xi v3), (4, xi v4)] [] h R H' := by
  obtain ⟨n, hn⟩ := whl_iff.mp hf
  clear hf
  induction n generalizing v3 v4 with
  | zero => cases hn
  | succ n ih =>
    obtain ⟨o2, hs, hn⟩ := lk_b (show (f_Sets_ringsAmong_30_s102 i2 v3 v4 h).bind (fun o => Sum.elim (itn _ n) some o) = some o from hn)
    exact f_Sets_ringsAmong_30_s102_ok hD hs (fun u0 u1 e => ih (by rw [e] at hn; exact hn)) (fun u0 u1 e => K0 u0 u1 (by rw [e] at hn; exact (Option.some.inj hn).symm))
noncomputable def f_Sets_ringsAmong_30_b97 (i2 : Nat) (h : xH) : Option (Int32 × xH) :=
  f_Sets_ringsAmong_30_l102 i2 (0 : Int32) (0 : Int32) h
set_option maxHeartbeats 4000000 in
set_option maxRecDepth 100000 in
theorem f_Sets_ringsAmong_30_b97_ok {g : xG} {l : Launch} {d : Nat} {i2 : Nat} {h : xH} {o : (Int32 × xH)} {R : Option xV} {H' : xH} (hD : 1 ≤ d) (hf : f_Sets_ringsAmong_30_b97 i2 h = some o) (K0 : ∀ (a : Int32) (h1 : xH), o = (a, h1) → R = some (xi a) ∧ H' = h1) : xEv g l d 41 97 [(0, xr 5 (some 0))] [] h R H' := by
  unfold f_Sets_ringsAmong_30_b97 at hf
  refine xs_iconst (v := 0) d41_97 (by decide) ?_
  refine xe_istore_n (v := (0 : Int32)) (ls2 := [(0, xr 5 (some 0)), (3, xi (0 : Int32))]) d41_98 mx41 (by decide) rfl rfl ?_
  refine xs_iconst (v := 0) d41_99 (by decide) ?_
  refine xe_istore (v := (0 : Int32)) (ls2 := [(0, xr 5 (some 0)), (3, xi (0 : Int32)), (4, xi (0 : Int32))]) d41_100 mx41 (by decide) rfl rfl ?_
  exact f_Sets_ringsAmong_30_l102_ok hD hf K0
noncomputable def f_Sets_ringsAmong_30_b91 (i2 : Nat) (v3 : Int32) (h : xH) : Option ((Int32 × xH) ⊕ (Int32 × xH)) :=
  xlet (v3 + (1 : Int32)) fun v3_8 =>
  some (Sum.inl (v3_8, h))
set_option maxHeartbeats 4000000 in
set_option maxRecDepth 100000 in
theorem f_Sets_ringsAmong_30_b91_ok {g : xG} {l : Launch} {d : Nat} {i2 : Nat} {v3 : Int32} {h : xH} {o : ((Int32 × xH) ⊕ (Int32 × xH))} {R : Option xV} {H' : xH} (hD : 1 ≤ d) (hf : f_Sets_ringsAmong_30_b91 i2 v3 h = some o) (K1 : ∀ (w3 : Int32) (h1 : xH), o = Sum.inl (w3, h1) → xEv g l d 41 39 [(0, xr 5 (some 0)), (3, xi w3)] [] h1 R H') (K0 : ∀ (a : Int32) (h1 : xH), o = Sum.inr ((a, h1)) → R = some (xi a) ∧ H' = h1) : xEv g l d 41 91 [(0, xr 5 (some 0)), (3, xi v3)] [] h R H' := by
  unfold f_Sets_ringsAmong_30_b91 at hf
  obtain ⟨v3_8, ev3_8, hf⟩ := lk_let hf
  refine xe_iinc (v := v3_8) (b := 1) (ls2 := [(0, xr 5 (some 0)), (3, xi v3_8)]) d41_91 mx41 (by decide) rfl (by decide) ev3_8 rfl ?_
  refine xs_goto (tgt := 39) d41_94 (by decide) ?_
  exact K1 _ _ (Option.some.inj hf).symm
noncomputable def f_Sets_ringsAmong_30_b85 (i2 : Nat) (v3 : Int32) (v4 : Int32) (h : xH) : Option ((Int32 × xH) ⊕ ((Int32 × xH) ⊕ (Int32 × xH))) :=
  xlet (v4 + (1 : Int32)) fun v4_13 =>
  some (Sum.inl (v4_13, h))
set_option maxHeartbeats 4000000 in
set_option maxRecDepth 100000 in
theorem f_Sets_ringsAmong_30_b85_ok {g : xG} {l : Launch} {d : Nat} {i2 : Nat} {v3 : Int32} {v4 : Int32} {h : xH} {o : ((Int32 × xH) ⊕ ((Int32 × xH) ⊕ (Int32 × xH)))} {R : Option xV} {H' : xH} (hD : 1 ≤ d) (hf : f_Sets_ringsAmong_30_b85 i2 v3 v4 h = some o) (K1 : ∀ (w3 : Int32) (h1 : xH), o = Sum.inr (Sum.inl (w3, h1)) → xEv g l d 41 39 [(0, xr 5 (some 0)), (3, xi w3)] [] h1 R H') (K2 : ∀ (w4 : Int32) (h1 : xH), o = Sum.inl (w4, h1) → xEv g l d 41 48 [(0, xr 5 (some 0)), (3, xi v3), (4, xi w4)] [] h1 R H') (K0 : ∀ (a : Int32) (h1 : xH), o = Sum.inr (Sum.inr ((a, h1))) → R = some (xi a) ∧ H' = h1) : xEv g l d 41 85 [(0, xr 5 (some 0)), (3, xi v3), (4, xi v4)] [] h R H' := by
  unfold f_Sets_ringsAmong_30_b85 at hf
  obtain ⟨v4_13, ev4_13, hf⟩ := lk_let hf
  refine xe_iinc (v := v4_13) (b := 1) (ls2 := [(0, xr 5 (some 0)), (3, xi v3), (4, xi v4_13)]) d41_85 mx41 (by decide) rfl (by decide) ev4_13 rfl ?_
  refine xs_goto (tgt := 48) d41_88 (by decide) ?_
  exact K2 _ _ (Option.some.inj hf).symm
noncomputable def f_Sets_ringsAmong_30_s48 (i2 : Nat) (v3 : Int32) (v4 : Int32) (h : xH) : Option ((Int32 × xH) ⊕ ((Int32 × xH) ⊕ (Int32 × xH))) :=
  if (8 : Int32) ≤ v4 then (
  xup (f_Sets_ringsAmong_30_b91 i2 v3 h)) else (
  if xib v4 8 then (
  (f_Sets_has (h.2.2.2.1 28 0 (v4).toNatClampNeg) v3 h).bind fun r10 =>
  if r10 = (0 : Int32) then (
  f_Sets_ringsAmong_30_b85 i2 v3 v4 h) else (
  if xib v4 8 then (
  if xib v3 8 then (
  if xib v4 8 then (
  xlet (xsA h 28 0 (upd (h.2.2.2.1 28 0) (v4).toNatClampNeg ((h.2.2.2.1 28 0 (v4).toNatClampNeg) ||| (h.2.2.2.1 28 0 (v3).toNatClampNeg)))) fun h17 =>
  f_Sets_ringsAmong_30_b85 i2 v3 v4 h17) else none) else none) else none)) else none)
set_option maxHeartbeats 4000000 in
set_option maxRecDepth 100000 in
theorem f_Sets_ringsAmong_30_s48_ok {g : xG} {l : Launch} {d : Nat} {i2 : Nat} {v3 : Int32} {v4 : Int32} {h : xH} {o : ((Int32 × xH) ⊕ ((Int32 × xH) ⊕ (Int32 × xH)))} {R : Option xV} {H' : xH} (hD : 1 ≤ d) (hf : f_Sets_ringsAmong_30_s48 i2 v3 v4 h = some o) (K1 : ∀ (w3 : Int32) (h1 : xH), o = Sum.inr (Sum.inl (w3, h1)) → xEv g l d 41 39 [(0, xr 5 (some 0)), (3, xi w3)] [] h1 R H') (K2 : ∀ (w4 : Int32) (h1 : xH), o = Sum.inl (w4, h1) → xEv g l d 41 48 [(0, xr 5 (some 0)), (3, xi v3), (4, xi w4)] [] h1 R H') (K0 : ∀ (a : Int32) (h1 : xH), o = Sum.inr (Sum.inr ((a, h1))) → R = some (xi a) ∧ H' = h1) : xEv g l d 41 48 [(0, xr 5 (some 0)), (3, xi v3), (4, xi v4)] [] h R H' := by
  unfold f_Sets_ringsAmong_30_s48 at hf
  refine xs_iload d41_48 rfl ?_
  refine xs_bipush (v := 8) d41_50 (by decide) ?_
  rcases lk_if hf with ⟨hc7, hf⟩ | ⟨hc7, hf⟩
  · refine xs_icmp_ge (tgt := 91) d41_52 (by decide) (fun _ => ?_) (fun hn => absurd hc7 hn)
    refine xs_pick [0, 1] rfl ?_
    obtain ⟨x0, hf, ex0⟩ := lk_up hf
    exact f_Sets_ringsAmong_30_b91_ok hD hf (fun u0 u1 e => K1 u0 u1 (ex0.trans (congrArg Sum.inr e))) (fun u0 u1 e => K0 u0 u1 (ex0.trans (congrArg Sum.inr e)))
  · refine xs_icmp_ge (tgt := 91) d41_52 (by decide) (fun hp => absurd hp hc7) (fun _ => ?_)
    refine xs_aload_n d41_55 rfl ?_
    refine xe_getc (j := 0) d41_56 ky41 fl139 fk5_13 rfl ?_
    refine xs_iload d41_59 rfl ?_
    obtain ⟨hin9, hf⟩ := lk_g hf
    refine xe_iald d41_61 (by decide) ak28 hin9 ?_
    refine xs_iload_n d41_62 rfl ?_
    obtain ⟨r10, hc11, hf⟩ := lk_b hf
    refine xe_calls1 (as := [xi (h.2.2.2.1 28 0 (v4).toNatClampNeg), xi v3]) (st := []) (h2 := h) (d2 := d - 1) d41_63 ky41 ml118 st28 rfl na28 (Nat.le_of_ble_eq_true rfl) (by omega) (f_Sets_has_ok (by omega) hc11) ?_
    rcases lk_if hf with ⟨hc12, hf⟩ | ⟨hc12, hf⟩
    · refine xs_if_eq (tgt := 85) d41_66 (by decide) (fun _ => ?_) (fun hn => absurd hc12 hn)
      exact f_Sets_ringsAmong_30_b85_ok hD hf K1 K2 K0
    · refine xs_if_eq (tgt := 85) d41_66 (by decide) (fun hp => absurd hp hc12) (fun _ => ?_)
      refine xs_aload_n d41_69 rfl ?_
      refine xe_getc (j := 0) d41_70 ky41 fl139 fk5_13 rfl ?_
      refine xs_iload d41_73 rfl ?_
      refine xs_dup2 d41_75 rfl rfl ?_
      obtain ⟨hin14, hf⟩ := lk_g hf
      refine xe_iald d41_76 (by decide) ak28 hin14 ?_
      refine xs_aload_n d41_77 rfl ?_
      refine xe_getc (j := 0) d41_78 ky41 fl139 fk5_13 rfl ?_
      refine xs_iload_n d41_81 rfl ?_
      obtain ⟨hin15, hf⟩ := lk_g hf
      refine xe_iald d41_82 (by decide) ak28 hin15 ?_
      refine xs_ior d41_83 ?_
      obtain ⟨hin16, hf⟩ := lk_g hf
      obtain ⟨h17, eh17, hf⟩ := lk_let hf
      refine xe_iast d41_84 (by decide) ak28 hin16  eh17 ?_
      exact f_Sets_ringsAmong_30_b85_ok hD hf K1 K2 K0
noncomputable def f_Sets_ringsAmong_30_l48 (i2 : Nat) (v3 : Int32) (v4 : Int32) (h : xH) : Option ((Int32 × xH) ⊕ (Int32 × xH)) :=
  whl (fun s => f_Sets_ringsAmong_30_s48 i2 v3 s.1 s.2) (v4, h)
theorem f_Sets_ringsAmong_30_l48_ok {g : xG} {l : Launch} {d : Nat} {i2 : Nat} {v3 : Int32} {v4 : Int32} {h : xH} {o : ((Int32 × xH) ⊕ (Int32 × xH))} {R : Option xV} {H' : xH} (hD : 1 ≤ d) (hf : f_Sets_ringsAmong_30_l48 i2 v3 v4 h = some o) (K1 : ∀ (w3 : Int32) (h1 : xH), o = Sum.inl (w3, h1) → xEv g l d 41 39 [(0, xr 5 (some 0)), (3, xi w3)] [] h1 R H') (K0 : ∀ (a : Int32) (h1 : xH), o = Sum.inr ((a, h1)) → R = some (xi a) ∧ H' = h1) : xEv g l d 41 48 [(0, xr 5 (some 0)), (3, xi v3), (4, xi v4)] [] h R H' := by
  obtain ⟨n, hn⟩ := whl_iff.mp hf
  clear hf
  induction n generalizing v4 h with
  | zero => cases hn
  | succ n ih =>
    obtain ⟨o2, hs, hn⟩ := lk_b (show (f_Sets_ringsAmong_30_s48 i2 v3 v4 h).bind (fun o => Sum.elim (itn _ n) some o) = some o from hn)
    exact f_Sets_ringsAmong_30_s48_ok hD hs (fun u0 u1 e => K1 u0 u1 (by rw [e] at hn; exact (Option.some.inj hn).symm)) (fun u0 u1 e => ih (by rw [e] at hn; exact hn)) (fun u0 u1 e => K0 u0 u1 (by rw [e] at hn; exact (Option.some.inj hn).symm))
noncomputable def f_Sets_ringsAmong_30_s39 (i2 : Nat) (v3 : Int32) (h : xH) : Option ((Int32 × xH) ⊕ (Int32 × xH)) :=
  if (8 : Int32) ≤ v3 then (
  xup (f_Sets_ringsAmong_30_b97 i2 h)) else (
  f_Sets_ringsAmong_30_l48 i2 v3 (0 : Int32) h)
set_option maxHeartbeats 4000000 in
set_option maxRecDepth 100000 in
theorem f_Sets_ringsAmong_30_s39_ok {g : xG} {l : Launch} {d : Nat} {i2 : Nat} {v3 : Int32} {h : xH} {o : ((Int32 × xH) ⊕ (Int32 × xH))} {R : Option xV} {H' : xH} (hD : 1 ≤ d) (hf : f_Sets_ringsAmong_30_s39 i2 v3 h = some o) (K1 : ∀ (w3 : Int32) (h1 : xH), o = Sum.inl (w3, h1) → xEv g l d 41 39 [(0, xr 5 (some 0)), (3, xi w3)] [] h1 R H') (K0 : ∀ (a : Int32) (h1 : xH), o = Sum.inr ((a, h1)) → R = some (xi a) ∧ H' = h1) : xEv g l d 41 39 [(0, xr 5 (some 0)), (3, xi v3)] [] h R H' := by
  unfold f_Sets_ringsAmong_30_s39 at hf
  refine xs_iload_n d41_39 rfl ?_
  refine xs_bipush (v := 8) d41_40 (by decide) ?_
  rcases lk_if hf with ⟨hc2, hf⟩ | ⟨hc2, hf⟩
  · refine xs_icmp_ge (tgt := 97) d41_42 (by decide) (fun _ => ?_) (fun hn => absurd hc2 hn)
    refine xs_pick [0] rfl ?_
    obtain ⟨x0, hf, ex0⟩ := lk_up hf
    exact f_Sets_ringsAmong_30_b97_ok hD hf (fun u0 u1 e => K0 u0 u1 (ex0.trans (congrArg Sum.inr e)))
  · refine xs_icmp_ge (tgt := 97) d41_42 (by decide) (fun hp => absurd hp hc2) (fun _ => ?_)
    refine xs_iconst (v := 0) d41_45 (by decide) ?_
    refine xe_istore (v := (0 : Int32)) (ls2 := [(0, xr 5 (some 0)), (3, xi v3), (4, xi (0 : Int32))]) d41_46 mx41 (by decide) rfl rfl ?_
    exact f_Sets_ringsAmong_30_l48_ok hD hf K1 K0
noncomputable def f_Sets_ringsAmong_30_l39 (i2 : Nat) (v3 : Int32) (h : xH) : Option (Int32 × xH) :=
  whl (fun s => f_Sets_ringsAmong_30_s39 i2 s.1 s.2) (v3, h)
theorem f_Sets_ringsAmong_30_l39_ok {g : xG} {l : Launch} {d : Nat} {i2 : Nat} {v3 : Int32} {h : xH} {o : (Int32 × xH)} {R : Option xV} {H' : xH} (hD : 1 ≤ d) (hf : f_Sets_ringsAmong_30_l39 i2 v3 h = some o) (K0 : ∀ (a : Int32) (h1 : xH), o = (a, h1) → R = some (xi a) ∧ H' = h1) : xEv g l d 41 39 [(0, xr 5 (some 0)), (3, xi v3)] [] h R H' := by
  obtain ⟨n, hn⟩ := whl_iff.mp hf
  clear hf
  induction n generalizing v3 h with
  | zero => cases hn
  | succ n ih =>
    obtain ⟨o2, hs, hn⟩ := lk_b (show (f_Sets_ringsAmong_30_s39 i2 v3 h).bind (fun o => Sum.elim (itn _ n) some o) = some o from hn)
    exact f_Sets_ringsAmong_30_s39_ok hD hs (fun u0 u1 e => ih (by rw [e] at hn; exact hn)) (fun u0 u1 e => K0 u0 u1 (by rw [e] at hn; exact (Option.some.inj hn).symm))
noncomputable def f_Sets_ringsAmong_30_b37 (i2 : Nat) (h : xH) : Option (Int32 × xH) :=
  f_Sets_ringsAmong_30_l39 i2 (0 : Int32) h
set_option maxHeartbeats 4000000 in
set_option maxRecDepth 100000 in
theorem f_Sets_ringsAmong_30_b37_ok {g : xG} {l : Launch} {d : Nat} {i2 : Nat} {h : xH} {o : (Int32 × xH)} {R : Option xV} {H' : xH} (hD : 1 ≤ d) (hf : f_Sets_ringsAmong_30_b37 i2 h = some o) (K0 : ∀ (a : Int32) (h1 : xH), o = (a, h1) → R = some (xi a) ∧ H' = h1) : xEv g l d 41 37 [(0, xr 5 (some 0))] [] h R H' := by
  unfold f_Sets_ringsAmong_30_b37 at hf
  refine xs_iconst (v := 0) d41_37 (by decide) ?_
  refine xe_istore_n (v := (0 : Int32)) (ls2 := [(0, xr 5 (some 0)), (3, xi (0 : Int32))]) d41_38 mx41 (by decide) rfl rfl ?_
  exact f_Sets_ringsAmong_30_l39_ok hD hf K0
noncomputable def f_Sets_ringsAmong_30_b30 (i2 : Nat) (v1 : Int32) (v3 : Int32) (t0 : Int32) (t1 : Int32) (h : xH) : Option ((Int32 × xH) ⊕ (Int32 × xH)) :=
  if xib t1 8 then (
  xlet (xsA h 28 0 (upd (h.2.2.2.1 28 0) (t1).toNatClampNeg t0)) fun h22 =>
  xlet (v3 + (1 : Int32)) fun v3_23 =>
  some (Sum.inl (v3_23, h22))) else none
set_option maxHeartbeats 4000000 in
set_option maxRecDepth 100000 in
theorem f_Sets_ringsAmong_30_b30_ok {g : xG} {l : Launch} {d : Nat} {i2 : Nat} {v1 : Int32} {v3 : Int32} {t0 : Int32} {t1 : Int32} {h : xH} {o : ((Int32 × xH) ⊕ (Int32 × xH))} {R : Option xV} {H' : xH} (hD : 1 ≤ d) (hf : f_Sets_ringsAmong_30_b30 i2 v1 v3 t0 t1 h = some o) (K1 : ∀ (w3 : Int32) (h1 : xH), o = Sum.inl (w3, h1) → xEv g l d 41 2 [(0, xr 5 (some 0)), (1, xi v1), (2, xr 30 (some i2)), (3, xi w3)] [] h1 R H') (K0 : ∀ (a : Int32) (h1 : xH), o = Sum.inr ((a, h1)) → R = some (xi a) ∧ H' = h1) : xEv g l d 41 30 [(0, xr 5 (some 0)), (1, xi v1), (2, xr 30 (some i2)), (3, xi v3)] [xi t0, xi t1, xr 28 (some 0)] h R H' := by
  unfold f_Sets_ringsAmong_30_b30 at hf
  obtain ⟨hin21, hf⟩ := lk_g hf
  obtain ⟨h22, eh22, hf⟩ := lk_let hf
  refine xe_iast d41_30 (by decide) ak28 hin21  eh22 ?_
  obtain ⟨v3_23, ev3_23, hf⟩ := lk_let hf
  refine xe_iinc (v := v3_23) (b := 1) (ls2 := [(0, xr 5 (some 0)), (1, xi v1), (2, xr 30 (some i2)), (3, xi v3_23)]) d41_31 mx41 (by decide) rfl (by decide) ev3_23 rfl ?_
  refine xs_goto (tgt := 2) d41_34 (by decide) ?_
  exact K1 _ _ (Option.some.inj hf).symm
noncomputable def f_Sets_ringsAmong_30_s2 (i2 : Nat) (v1 : Int32) (v3 : Int32) (h : xH) : Option ((Int32 × xH) ⊕ (Int32 × xH)) :=
  if (8 : Int32) ≤ v3 then (
  xup (f_Sets_ringsAmong_30_b37 i2 h)) else (
  (f_Sets_has v1 v3 h).bind fun r18 =>
  if r18 = (0 : Int32) then (
  f_Sets_ringsAmong_30_b30 i2 v1 v3 (0 : Int32) v3 h) else (
  if xib v3 8 then (
  f_Sets_ringsAmong_30_b30 i2 v1 v3 ((h.2.2.2.1 30 i2 (v3).toNatClampNeg) &&& v1) v3 h) else none))
set_option maxHeartbeats 4000000 in
set_option maxRecDepth 100000 in
theorem f_Sets_ringsAmong_30_s2_ok {g : xG} {l : Launch} {d : Nat} {i2 : Nat} {v1 : Int32} {v3 : Int32} {h : xH} {o : ((Int32 × xH) ⊕ (Int32 × xH))} {R : Option xV} {H' : xH} (hD : 1 ≤ d) (hf : f_Sets_ringsAmong_30_s2 i2 v1 v3 h = some o) (K1 : ∀ (w3 : Int32) (h1 : xH), o = Sum.inl (w3, h1) → xEv g l d 41 2 [(0, xr 5 (some 0)), (1, xi v1), (2, xr 30 (some i2)), (3, xi w3)] [] h1 R H') (K0 : ∀ (a : Int32) (h1 : xH), o = Sum.inr ((a, h1)) → R = some (xi a) ∧ H' = h1) : xEv g l d 41 2 [(0, xr 5 (some 0)), (1, xi v1), (2, xr 30 (some i2)), (3, xi v3)] [] h R H' := by
  unfold f_Sets_ringsAmong_30_s2 at hf
  refine xs_iload_n d41_2 rfl ?_
  refine xs_bipush (v := 8) d41_3 (by decide) ?_
  rcases lk_if hf with ⟨hc1, hf⟩ | ⟨hc1, hf⟩
  · refine xs_icmp_ge (tgt := 37) d41_5 (by decide) (fun _ => ?_) (fun hn => absurd hc1 hn)
    refine xs_pick [0] rfl ?_
    obtain ⟨x0, hf, ex0⟩ := lk_up hf
    exact f_Sets_ringsAmong_30_b37_ok hD hf (fun u0 u1 e => K0 u0 u1 (ex0.trans (congrArg Sum.inr e)))
  · refine xs_icmp_ge (tgt := 37) d41_5 (by decide) (fun hp => absurd hp hc1) (fun _ => ?_)
    refine xs_aload_n d41_8 rfl ?_
    refine xe_getc (j := 0) d41_9 ky41 fl139 fk5_13 rfl ?_
    refine xs_iload_n d41_12 rfl ?_
    refine xs_iload_n d41_13 rfl ?_
    refine xs_iload_n d41_14 rfl ?_
    obtain ⟨r18, hc19, hf⟩ := lk_b hf
    refine xe_calls1 (as := [xi v1, xi v3]) (st := [xi v3, xr 28 (some 0)]) (h2 := h) (d2 := d - 1) d41_15 ky41 ml118 st28 rfl na28 (Nat.le_of_ble_eq_true rfl) (by omega) (f_Sets_has_ok (by omega) hc19) ?_
    rcases lk_if hf with ⟨hc20, hf⟩ | ⟨hc20, hf⟩
    · refine xs_if_eq (tgt := 29) d41_18 (by decide) (fun _ => ?_) (fun hn => absurd hc20 hn)
      refine xs_iconst (v := 0) d41_29 (by decide) ?_
      exact f_Sets_ringsAmong_30_b30_ok hD hf K1 K0
    · refine xs_if_eq (tgt := 29) d41_18 (by decide) (fun hp => absurd hp hc20) (fun _ => ?_)
      refine xs_aload_n d41_21 rfl ?_
      refine xs_iload_n d41_22 rfl ?_
      obtain ⟨hin24, hf⟩ := lk_g hf
      refine xe_iald d41_23 (by decide) ak30 hin24 ?_
      refine xs_iload_n d41_24 rfl ?_
      refine xs_iand d41_25 ?_
      refine xs_goto (tgt := 30) d41_26 (by decide) ?_
      exact f_Sets_ringsAmong_30_b30_ok hD hf K1 K0
noncomputable def f_Sets_ringsAmong_30_l2 (i2 : Nat) (v1 : Int32) (v3 : Int32) (h : xH) : Option (Int32 × xH) :=
  whl (fun s => f_Sets_ringsAmong_30_s2 i2 v1 s.1 s.2) (v3, h)
theorem f_Sets_ringsAmong_30_l2_ok {g : xG} {l : Launch} {d : Nat} {i2 : Nat} {v1 : Int32} {v3 : Int32} {h : xH} {o : (Int32 × xH)} {R : Option xV} {H' : xH} (hD : 1 ≤ d) (hf : f_Sets_ringsAmong_30_l2 i2 v1 v3 h = some o) (K0 : ∀ (a : Int32) (h1 : xH), o = (a, h1) → R = some (xi a) ∧ H' = h1) : xEv g l d 41 2 [(0, xr 5 (some 0)), (1, xi v1), (2, xr 30 (some i2)), (3, xi v3)] [] h R H' := by
  obtain ⟨n, hn⟩ := whl_iff.mp hf
  clear hf
  induction n generalizing v3 h with
  | zero => cases hn
  | succ n ih =>
    obtain ⟨o2, hs, hn⟩ := lk_b (show (f_Sets_ringsAmong_30_s2 i2 v1 v3 h).bind (fun o => Sum.elim (itn _ n) some o) = some o from hn)
    exact f_Sets_ringsAmong_30_s2_ok hD hs (fun u0 u1 e => ih (by rw [e] at hn; exact hn)) (fun u0 u1 e => K0 u0 u1 (by rw [e] at hn; exact (Option.some.inj hn).symm))
noncomputable def f_Sets_ringsAmong_30_e (i2 : Nat) (v1 : Int32) (h : xH) : Option (Int32 × xH) :=
  f_Sets_ringsAmong_30_l2 i2 v1 (0 : Int32) h
set_option maxHeartbeats 4000000 in
set_option maxRecDepth 100000 in
theorem f_Sets_ringsAmong_30_e_ok {g : xG} {l : Launch} {d : Nat} {i2 : Nat} {v1 : Int32} {h : xH} {o : (Int32 × xH)} {R : Option xV} {H' : xH} (hD : 1 ≤ d) (hf : f_Sets_ringsAmong_30_e i2 v1 h = some o) (K0 : ∀ (a : Int32) (h1 : xH), o = (a, h1) → R = some (xi a) ∧ H' = h1) : xEv g l d 41 0 [(0, xr 5 (some 0)), (1, xi v1), (2, xr 30 (some i2))] [] h R H' := by
  unfold f_Sets_ringsAmong_30_e at hf
  refine xs_iconst (v := 0) d41_0 (by decide) ?_
  refine xe_istore_n (v := (0 : Int32)) (ls2 := [(0, xr 5 (some 0)), (1, xi v1), (2, xr 30 (some i2)), (3, xi (0 : Int32))]) d41_1 mx41 (by decide) rfl rfl ?_
  exact f_Sets_ringsAmong_30_l2_ok hD hf K0
noncomputable def f_Sets_ringsAmong_30 (v1 : Int32) (i2 : Nat) (h : xH) : Option (Int32 × xH) := f_Sets_ringsAmong_30_e i2 v1 h
theorem f_Sets_ringsAmong_30_ok {g : xG} {l : Launch} {d : Nat} {v1 : Int32} {i2 : Nat} {h : xH} {r : Int32} {h1 : xH} (hD : 1 ≤ d) (hf : f_Sets_ringsAmong_30 v1 i2 h = some (r, h1)) : xC g l d 41 [xr 5 (some 0), xi v1, xr 30 (some i2)] h (some (xi r)) h1 :=
  xC_of (by decide) (Nat.le_of_ble_eq_true rfl) (f_Sets_ringsAmong_30_e_ok hD hf (fun _ _ e => by cases e; exact ⟨rfl, rfl⟩))
theorem d42_0 : decode (xcode 42) 0 = .ok (.aload_n 1, 1) := by decide +kernel
theorem d42_1 : decode (xcode 42) 1 = .ok (.getfield 68, 3) := by decide +kernel
theorem d42_4 : decode (xcode 42) 4 = .ok (.istore_n 2, 1) := by decide +kernel
theorem d42_5 : decode (xcode 42) 5 = .ok (.iconst 0, 1) := by decide +kernel
theorem d42_6 : decode (xcode 42) 6 = .ok (.istore_n 3, 1) := by decide +kernel
theorem d42_7 : decode (xcode 42) 7 = .ok (.iload_n 3, 1) := by decide +kernel
theorem d42_8 : decode (xcode 42) 8 = .ok (.sipush 256, 3) := by decide +kernel
theorem d42_11 : decode (xcode 42) 11 = .ok (.if_icmp .ge 64, 3) := by decide +kernel
theorem d42_14 : decode (xcode 42) 14 = .ok (.iload_n 3, 1) := by decide +kernel
theorem d42_15 : decode (xcode 42) 15 = .ok (.aload_n 1, 1) := by decide +kernel
theorem d42_16 : decode (xcode 42) 16 = .ok (.getfield 68, 3) := by decide +kernel
theorem d42_19 : decode (xcode 42) 19 = .ok (.iconst (-1), 1) := by decide +kernel
theorem d42_20 : decode (xcode 42) 20 = .ok (.ixor, 1) := by decide +kernel
theorem d42_21 : decode (xcode 42) 21 = .ok (.iand, 1) := by decide +kernel
theorem d42_22 : decode (xcode 42) 22 = .ok (.ifCond .ne 18, 3) := by decide +kernel
theorem d42_25 : decode (xcode 42) 25 = .ok (.iload_n 3, 1) := by decide +kernel
theorem d42_26 : decode (xcode 42) 26 = .ok (.invokestatic 122, 3) := by decide +kernel
theorem d42_29 : decode (xcode 42) 29 = .ok (.iload_n 2, 1) := by decide +kernel
theorem d42_30 : decode (xcode 42) 30 = .ok (.invokestatic 122, 3) := by decide +kernel
theorem d42_33 : decode (xcode 42) 33 = .ok (.if_icmp .ge 7, 3) := by decide +kernel
theorem d42_36 : decode (xcode 42) 36 = .ok (.iconst 1, 1) := by decide +kernel
theorem d42_37 : decode (xcode 42) 37 = .ok (.goto 4, 3) := by decide +kernel
theorem d42_40 : decode (xcode 42) 40 = .ok (.iconst 0, 1) := by decide +kernel
theorem d42_41 : decode (xcode 42) 41 = .ok (.istore 4, 2) := by decide +kernel
theorem d42_43 : decode (xcode 42) 43 = .ok (.iload 4, 2) := by decide +kernel
theorem d42_45 : decode (xcode 42) 45 = .ok (.ifCond .eq 24, 3) := by decide +kernel
theorem d42_48 : decode (xcode 42) 48 = .ok (.aload_n 0, 1) := by decide +kernel
theorem d42_49 : decode (xcode 42) 49 = .ok (.aload_n 1, 1) := by decide +kernel
theorem d42_50 : decode (xcode 42) 50 = .ok (.getfield 68, 3) := by decide +kernel
theorem d42_53 : decode (xcode 42) 53 = .ok (.iload_n 3, 1) := by decide +kernel
theorem d42_54 : decode (xcode 42) 54 = .ok (.iconst (-1), 1) := by decide +kernel
theorem d42_55 : decode (xcode 42) 55 = .ok (.ixor, 1) := by decide +kernel
theorem d42_56 : decode (xcode 42) 56 = .ok (.iand, 1) := by decide +kernel
theorem d42_57 : decode (xcode 42) 57 = .ok (.aload_n 1, 1) := by decide +kernel
theorem d42_58 : decode (xcode 42) 58 = .ok (.getfield 82, 3) := by decide +kernel
theorem d42_61 : decode (xcode 42) 61 = .ok (.invokevirtual 125, 3) := by decide +kernel
theorem d42_64 : decode (xcode 42) 64 = .ok (.ifCond .ne 5, 3) := by decide +kernel
theorem d42_67 : decode (xcode 42) 67 = .ok (.iload_n 3, 1) := by decide +kernel
theorem d42_68 : decode (xcode 42) 68 = .ok (.istore_n 2, 1) := by decide +kernel
theorem d42_69 : decode (xcode 42) 69 = .ok (.iinc 3 1, 3) := by decide +kernel
theorem d42_72 : decode (xcode 42) 72 = .ok (.goto (-65), 3) := by decide +kernel
theorem d42_75 : decode (xcode 42) 75 = .ok (.iload_n 2, 1) := by decide +kernel
theorem d42_76 : decode (xcode 42) 76 = .ok (.ireturn, 1) := by decide +kernel
noncomputable def f_Sets_fewestForNoRings_b69 (i1 : Nat) (v2 : Int32) (v3 : Int32) (h : xH) : Option ((Int32 × Int32 × xH) ⊕ (Int32 × xH)) :=
  xlet (v3 + (1 : Int32)) fun v3_10 =>
  some (Sum.inl (v2, v3_10, h))
set_option maxHeartbeats 4000000 in
set_option maxRecDepth 100000 in
theorem f_Sets_fewestForNoRings_b69_ok {g : xG} {l : Launch} {d : Nat} {i1 : Nat} {v2 : Int32} {v3 : Int32} {h : xH} {o : ((Int32 × Int32 × xH) ⊕ (Int32 × xH))} {R : Option xV} {H' : xH} (hD : 2 ≤ d) (hf : f_Sets_fewestForNoRings_b69 i1 v2 v3 h = some o) (K1 : ∀ (w2 : Int32) (w3 : Int32) (h1 : xH), o = Sum.inl (w2, w3, h1) → xEv g l d 42 7 [(0, xr 5 (some 0)), (1, xr 6 (some i1)), (2, xi w2), (3, xi w3)] [] h1 R H') (K0 : ∀ (a : Int32) (h1 : xH), o = Sum.inr ((a, h1)) → R = some (xi a) ∧ H' = h1) : xEv g l d 42 69 [(0, xr 5 (some 0)), (1, xr 6 (some i1)), (2, xi v2), (3, xi v3)] [] h R H' := by
  unfold f_Sets_fewestForNoRings_b69 at hf
  obtain ⟨v3_10, ev3_10, hf⟩ := lk_let hf
  refine xe_iinc (v := v3_10) (b := 1) (ls2 := [(0, xr 5 (some 0)), (1, xr 6 (some i1)), (2, xi v2), (3, xi v3_10)]) d42_69 mx42 (by decide) rfl (by decide) ev3_10 rfl ?_
  refine xs_goto (tgt := 7) d42_72 (by decide) ?_
  exact K1 _ _ _ (Option.some.inj hf).symm
noncomputable def f_Sets_fewestForNoRings_b41 (i1 : Nat) (v2 : Int32) (v3 : Int32) (t0 : Int32) (h : xH) : Option ((Int32 × Int32 × xH) ⊕ (Int32 × xH)) :=
  if t0 = (0 : Int32) then (
  f_Sets_fewestForNoRings_b69 i1 v2 v3 h) else (
  (f_Sets_ringsAmong_30 ((h.1 6 2 i1) &&& (v3 ^^^ (-1 : Int32))) i1 h).bind fun q13 =>
  if q13.1 = (0 : Int32) then (
  f_Sets_fewestForNoRings_b69 i1 v3 v3 q13.2) else (
  f_Sets_fewestForNoRings_b69 i1 v2 v3 q13.2))
set_option maxHeartbeats 4000000 in
set_option maxRecDepth 100000 in
theorem f_Sets_fewestForNoRings_b41_ok {g : xG} {l : Launch} {d : Nat} {i1 : Nat} {v2 : Int32} {v3 : Int32} {t0 : Int32} {h : xH} {o : ((Int32 × Int32 × xH) ⊕ (Int32 × xH))} {R : Option xV} {H' : xH} (hD : 2 ≤ d) (hf : f_Sets_fewestForNoRings_b41 i1 v2 v3 t0 h = some o) (K1 : ∀ (w2 : Int32) (w3 : Int32) (h1 : xH), o = Sum.inl (w2, w3, h1) → xEv g l d 42 7 [(0, xr 5 (some 0)), (1, xr 6 (some i1)), (2, xi w2), (3, xi w3)] [] h1 R H') (K0 : ∀ (a : Int32) (h1 : xH), o = Sum.inr ((a, h1)) → R = some (xi a) ∧ H' = h1) : xEv g l d 42 41 [(0, xr 5 (some 0)), (1, xr 6 (some i1)), (2, xi v2), (3, xi v3)] [xi t0] h R H' := by
  unfold f_Sets_fewestForNoRings_b41 at hf
  refine xe_istore (v := t0) (ls2 := [(0, xr 5 (some 0)), (1, xr 6 (some i1)), (2, xi v2), (3, xi v3), (4, xi t0)]) d42_41 mx42 (by decide) rfl rfl ?_
  refine xs_iload d42_43 rfl ?_
  rcases lk_if hf with ⟨hc9, hf⟩ | ⟨hc9, hf⟩
  · refine xs_if_eq (tgt := 69) d42_45 (by decide) (fun _ => ?_) (fun hn => absurd hc9 hn)
    refine xs_pick [0, 1, 2, 3] rfl ?_
    exact f_Sets_fewestForNoRings_b69_ok hD hf K1 K0
  · refine xs_if_eq (tgt := 69) d42_45 (by decide) (fun hp => absurd hp hc9) (fun _ => ?_)
    refine xs_aload_n d42_48 rfl ?_
    refine xs_aload_n d42_49 rfl ?_
    refine xe_geti d42_50 ky42 fl76 fk6_2 ?_
    refine xs_iload_n d42_53 rfl ?_
    refine xs_iconst (v := -1) d42_54 (by decide) ?_
    refine xs_ixor d42_55 ?_
    refine xs_iand d42_56 ?_
    refine xs_aload_n d42_57 rfl ?_
    refine xe_getc (j := i1) d42_58 ky42 fl85 fk6_5 (by omega) ?_
    obtain ⟨q13, hc12, hf⟩ := lk_b hf
    refine xe_callv1 (as := [xi ((h.1 6 2 i1) &&& (v3 ^^^ (-1 : Int32))), xr 30 (some i1)]) (st := []) (h2 := q13.2) (d2 := d - 1) d42_61 ky42 ml135 st41 (by decide) cn41 rfl na41 (Nat.le_of_ble_eq_true rfl) (by omega) (f_Sets_ringsAmong_30_ok (by omega) hc12) ?_
    rcases lk_if hf with ⟨hc14, hf⟩ | ⟨hc14, hf⟩
    · refine xs_if_ne (tgt := 69) d42_64 (by decide) (fun _ => ?_) (fun hn => absurd hc14 hn)
      refine xs_iload_n d42_67 rfl ?_
      refine xe_istore_n (v := v3) (ls2 := [(0, xr 5 (some 0)), (1, xr 6 (some i1)), (2, xi v3), (3, xi v3), (4, xi t0)]) d42_68 mx42 (by decide) rfl rfl ?_
      refine xs_pick [0, 1, 2, 3] rfl ?_
      exact f_Sets_fewestForNoRings_b69_ok hD hf K1 K0
    · refine xs_if_ne (tgt := 69) d42_64 (by decide) (fun hp => absurd hp hc14) (fun _ => ?_)
      refine xs_pick [0, 1, 2, 3] rfl ?_
      exact f_Sets_fewestForNoRings_b69_ok hD hf K1 K0
noncomputable def f_Sets_fewestForNoRings_b40 (i1 : Nat) (v2 : Int32) (v3 : Int32) (h : xH) : Option ((Int32 × Int32 × xH) ⊕ (Int32 × xH)) :=
  f_Sets_fewestForNoRings_b41 i1 v2 v3 (0 : Int32) h
set_option maxHeartbeats 4000000 in
set_option maxRecDepth 100000 in
theorem f_Sets_fewestForNoRings_b40_ok {g : xG} {l : Launch} {d : Nat} {i1 : Nat} {v2 : Int32} {v3 : Int32} {h : xH} {o : ((Int32 × Int32 × xH) ⊕ (Int32 × xH))} {R : Option xV} {H' : xH} (hD : 2 ≤ d) (hf : f_Sets_fewestForNoRings_b40 i1 v2 v3 h = some o) (K1 : ∀ (w2 : Int32) (w3 : Int32) (h1 : xH), o = Sum.inl (w2, w3, h1) → xEv g l d 42 7 [(0, xr 5 (some 0)), (1, xr 6 (some i1)), (2, xi w2), (3, xi w3)] [] h1 R H') (K0 : ∀ (a : Int32) (h1 : xH), o = Sum.inr ((a, h1)) → R = some (xi a) ∧ H' = h1) : xEv g l d 42 40 [(0, xr 5 (some 0)), (1, xr 6 (some i1)), (2, xi v2), (3, xi v3)] [] h R H' := by
  unfold f_Sets_fewestForNoRings_b40 at hf
  refine xs_iconst (v := 0) d42_40 (by decide) ?_
  exact f_Sets_fewestForNoRings_b41_ok hD hf K1 K0
noncomputable def f_Sets_fewestForNoRings_s7 (i1 : Nat) (v2 : Int32) (v3 : Int32) (h : xH) : Option ((Int32 × Int32 × xH) ⊕ (Int32 × xH)) :=
  if (256 : Int32) ≤ v3 then (
  some (Sum.inr ((v2, h)))) else (
  if (v3 &&& ((h.1 6 2 i1) ^^^ (-1 : Int32))) = (0 : Int32) then (
  (f_Integer_bitCount v3 h).bind fun r4 =>
  (f_Integer_bitCount v2 h).bind fun r6 =>
  if r6 ≤ r4 then (
  f_Sets_fewestForNoRings_b40 i1 v2 v3 h) else (
  f_Sets_fewestForNoRings_b41 i1 v2 v3 (1 : Int32) h)) else (
  f_Sets_fewestForNoRings_b40 i1 v2 v3 h))
set_option maxHeartbeats 4000000 in
set_option maxRecDepth 100000 in
theorem f_Sets_fewestForNoRings_s7_ok {g : xG} {l : Launch} {d : Nat} {i1 : Nat} {v2 : Int32} {v3 : Int32} {h : xH} {o : ((Int32 × Int32 × xH) ⊕ (Int32 × xH))} {R : Option xV} {H' : xH} (hD : 2 ≤ d) (hf : f_Sets_fewestForNoRings_s7 i1 v2 v3 h = some o) (K1 : ∀ (w2 : Int32) (w3 : Int32) (h1 : xH), o = Sum.inl (w2, w3, h1) → xEv g l d 42 7 [(0, xr 5 (some 0)), (1, xr 6 (some i1)), (2, xi w2), (3, xi w3)] [] h1 R H') (K0 : ∀ (a : Int32) (h1 : xH), o = Sum.inr ((a, h1)) → R = some (xi a) ∧ H' = h1) : xEv g l d 42 7 [(0, xr 5 (some 0)), (1, xr 6 (some i1)), (2, xi v2), (3, xi v3)] [] h R H' := by
  unfold f_Sets_fewestForNoRings_s7 at hf
  refine xs_iload_n d42_7 rfl ?_
  refine xs_sipush (v := 256) d42_8 (by decide) ?_
  rcases lk_if hf with ⟨hc2, hf⟩ | ⟨hc2, hf⟩
  · refine xs_icmp_ge (tgt := 75) d42_11 (by decide) (fun _ => ?_) (fun hn => absurd hc2 hn)
    refine xs_iload_n d42_75 rfl ?_
    obtain ⟨eR, eH⟩ := K0 _ _ (Option.some.inj hf).symm
    subst eR; subst eH
    exact xs_iret d42_76 rt42
  · refine xs_icmp_ge (tgt := 75) d42_11 (by decide) (fun hp => absurd hp hc2) (fun _ => ?_)
    refine xs_iload_n d42_14 rfl ?_
    refine xs_aload_n d42_15 rfl ?_
    refine xe_geti d42_16 ky42 fl76 fk6_2 ?_
    refine xs_iconst (v := -1) d42_19 (by decide) ?_
    refine xs_ixor d42_20 ?_
    refine xs_iand d42_21 ?_
    rcases lk_if hf with ⟨hc3, hf⟩ | ⟨hc3, hf⟩
    · refine xs_if_ne (tgt := 40) d42_22 (by decide) (fun _ => ?_) (fun hn => absurd hc3 hn)
      refine xs_iload_n d42_25 rfl ?_
      obtain ⟨r4, hc5, hf⟩ := lk_b hf
      refine xe_calls1 (as := [xi v3]) (st := []) (h2 := h) (d2 := d - 1) d42_26 ky42 ml134 st255 rfl na255 (Nat.le_of_ble_eq_true rfl) (by omega) (f_Integer_bitCount_ok (by omega) hc5) ?_
      refine xs_iload_n d42_29 rfl ?_
      obtain ⟨r6, hc7, hf⟩ := lk_b hf
      refine xe_calls1 (as := [xi v2]) (st := [xi r4]) (h2 := h) (d2 := d - 1) d42_30 ky42 ml134 st255 rfl na255 (Nat.le_of_ble_eq_true rfl) (by omega) (f_Integer_bitCount_ok (by omega) hc7) ?_
      rcases lk_if hf with ⟨hc8, hf⟩ | ⟨hc8, hf⟩
      · refine xs_icmp_ge (tgt := 40) d42_33 (by decide) (fun _ => ?_) (fun hn => absurd hc8 hn)
        exact f_Sets_fewestForNoRings_b40_ok hD hf K1 K0
      · refine xs_icmp_ge (tgt := 40) d42_33 (by decide) (fun hp => absurd hp hc8) (fun _ => ?_)
        refine xs_iconst (v := 1) d42_36 (by decide) ?_
        refine xs_goto (tgt := 41) d42_37 (by decide) ?_
        exact f_Sets_fewestForNoRings_b41_ok hD hf K1 K0
    · refine xs_if_ne (tgt := 40) d42_22 (by decide) (fun hp => absurd hp hc3) (fun _ => ?_)
      exact f_Sets_fewestForNoRings_b40_ok hD hf K1 K0
noncomputable def f_Sets_fewestForNoRings_l7 (i1 : Nat) (v2 : Int32) (v3 : Int32) (h : xH) : Option (Int32 × xH) :=
  whl (fun s => f_Sets_fewestForNoRings_s7 i1 s.1 s.2.1 s.2.2) (v2, v3, h)
theorem f_Sets_fewestForNoRings_l7_ok {g : xG} {l : Launch} {d : Nat} {i1 : Nat} {v2 : Int32} {v3 : Int32} {h : xH} {o : (Int32 × xH)} {R : Option xV} {H' : xH} (hD : 2 ≤ d) (hf : f_Sets_fewestForNoRings_l7 i1 v2 v3 h = some o) (K0 : ∀ (a : Int32) (h1 : xH), o = (a, h1) → R = some (xi a) ∧ H' = h1) : xEv g l d 42 7 [(0, xr 5 (some 0)), (1, xr 6 (some i1)), (2, xi v2), (3, xi v3)] [] h R H' := by
  obtain ⟨n, hn⟩ := whl_iff.mp hf
  clear hf
  induction n generalizing v2 v3 h with
  | zero => cases hn
  | succ n ih =>
    obtain ⟨o2, hs, hn⟩ := lk_b (show (f_Sets_fewestForNoRings_s7 i1 v2 v3 h).bind (fun o => Sum.elim (itn _ n) some o) = some o from hn)
    exact f_Sets_fewestForNoRings_s7_ok hD hs (fun u0 u1 u2 e => ih (by rw [e] at hn; exact hn)) (fun u0 u1 e => K0 u0 u1 (by rw [e] at hn; exact (Option.some.inj hn).symm))
noncomputable def f_Sets_fewestForNoRings_e (i1 : Nat) (h : xH) : Option (Int32 × xH) :=
  xlet (h.1 6 2 i1) fun v2_1 =>
  f_Sets_fewestForNoRings_l7 i1 v2_1 (0 : Int32) h
set_option maxHeartbeats 4000000 in
set_option maxRecDepth 100000 in
theorem f_Sets_fewestForNoRings_e_ok {g : xG} {l : Launch} {d : Nat} {i1 : Nat} {h : xH} {o : (Int32 × xH)} {R : Option xV} {H' : xH} (hD : 2 ≤ d) (hf : f_Sets_fewestForNoRings_e i1 h = some o) (K0 : ∀ (a : Int32) (h1 : xH), o = (a, h1) → R = some (xi a) ∧ H' = h1) : xEv g l d 42 0 [(0, xr 5 (some 0)), (1, xr 6 (some i1))] [] h R H' := by
  unfold f_Sets_fewestForNoRings_e at hf
  refine xs_aload_n d42_0 rfl ?_
  refine xe_geti d42_1 ky42 fl76 fk6_2 ?_
  obtain ⟨v2_1, ev2_1, hf⟩ := lk_let hf
  refine xe_istore_n (v := v2_1) (ls2 := [(0, xr 5 (some 0)), (1, xr 6 (some i1)), (2, xi v2_1)]) d42_4 mx42 (by decide) ev2_1 rfl ?_
  refine xs_iconst (v := 0) d42_5 (by decide) ?_
  refine xe_istore_n (v := (0 : Int32)) (ls2 := [(0, xr 5 (some 0)), (1, xr 6 (some i1)), (2, xi v2_1), (3, xi (0 : Int32))]) d42_6 mx42 (by decide) rfl rfl ?_
  exact f_Sets_fewestForNoRings_l7_ok hD hf K0
noncomputable def f_Sets_fewestForNoRings (i1 : Nat) (h : xH) : Option (Int32 × xH) := f_Sets_fewestForNoRings_e i1 h
theorem f_Sets_fewestForNoRings_ok {g : xG} {l : Launch} {d : Nat} {i1 : Nat} {h : xH} {r : Int32} {h1 : xH} (hD : 2 ≤ d) (hf : f_Sets_fewestForNoRings i1 h = some (r, h1)) : xC g l d 42 [xr 5 (some 0), xr 6 (some i1)] h (some (xi r)) h1 :=
  xC_of (by decide) (Nat.le_of_ble_eq_true rfl) (f_Sets_fewestForNoRings_e_ok hD hf (fun _ _ e => by cases e; exact ⟨rfl, rfl⟩))
theorem d44_0 : decode (xcode 44) 0 = .ok (.aload_n 0, 1) := by decide +kernel
theorem d44_1 : decode (xcode 44) 1 = .ok (.getfield 132, 3) := by decide +kernel
theorem d44_4 : decode (xcode 44) 4 = .ok (.iconst (-1), 1) := by decide +kernel
theorem d44_5 : decode (xcode 44) 5 = .ok (.if_icmp .eq 11, 3) := by decide +kernel
theorem d44_8 : decode (xcode 44) 8 = .ok (.iload_n 1, 1) := by decide +kernel
theorem d44_9 : decode (xcode 44) 9 = .ok (.aload_n 0, 1) := by decide +kernel
theorem d44_10 : decode (xcode 44) 10 = .ok (.getfield 129, 3) := by decide +kernel
theorem d44_13 : decode (xcode 44) 13 = .ok (.if_icmp .le 13, 3) := by decide +kernel
theorem d44_16 : decode (xcode 44) 16 = .ok (.aload_n 0, 1) := by decide +kernel
theorem d44_17 : decode (xcode 44) 17 = .ok (.iload_n 1, 1) := by decide +kernel
theorem d44_18 : decode (xcode 44) 18 = .ok (.putfield 129, 3) := by decide +kernel
theorem d44_21 : decode (xcode 44) 21 = .ok (.aload_n 0, 1) := by decide +kernel
theorem d44_22 : decode (xcode 44) 22 = .ok (.iload_n 2, 1) := by decide +kernel
theorem d44_23 : decode (xcode 44) 23 = .ok (.putfield 132, 3) := by decide +kernel
theorem d44_26 : decode (xcode 44) 26 = .ok (.return_, 1) := by decide +kernel
noncomputable def f_Sets_keepMove_b16 (v1 : Int32) (v2 : Int32) (h : xH) : Option xH :=
  xlet (xsI h 5 6 0 v1) fun h2 =>
  xlet (xsI h2 5 7 0 v2) fun h3 =>
  some (h3)
set_option maxHeartbeats 4000000 in
set_option maxRecDepth 100000 in
theorem f_Sets_keepMove_b16_ok {g : xG} {l : Launch} {d : Nat} {v1 : Int32} {v2 : Int32} {h : xH} {o : xH} {R : Option xV} {H' : xH} (hD : 0 ≤ d) (hf : f_Sets_keepMove_b16 v1 v2 h = some o) (K0 : ∀ (h1 : xH), o = h1 → R = none ∧ H' = h1) : xEv g l d 44 16 [(0, xr 5 (some 0)), (1, xi v1), (2, xi v2)] [] h R H' := by
  unfold f_Sets_keepMove_b16 at hf
  refine xs_aload_n d44_16 rfl ?_
  refine xs_iload_n d44_17 rfl ?_
  obtain ⟨h2, eh2, hf⟩ := lk_let hf
  refine xe_puti d44_18 ky44 fl130 fk5_6 ft5_6 eh2 ?_
  refine xs_aload_n d44_21 rfl ?_
  refine xs_iload_n d44_22 rfl ?_
  obtain ⟨h3, eh3, hf⟩ := lk_let hf
  refine xe_puti d44_23 ky44 fl132 fk5_7 ft5_7 eh3 ?_
  obtain ⟨eR, eH⟩ := K0 _ (Option.some.inj hf).symm
  subst eR; subst eH
  exact xs_vret d44_26 rt44
noncomputable def f_Sets_keepMove_e (v1 : Int32) (v2 : Int32) (h : xH) : Option xH :=
  if (h.1 5 7 0) = (-1 : Int32) then (
  f_Sets_keepMove_b16 v1 v2 h) else (
  if v1 ≤ (h.1 5 6 0) then (
  some (h)) else (
  f_Sets_keepMove_b16 v1 v2 h))
set_option maxHeartbeats 4000000 in
set_option maxRecDepth 100000 in
theorem f_Sets_keepMove_e_ok {g : xG} {l : Launch} {d : Nat} {v1 : Int32} {v2 : Int32} {h : xH} {o : xH} {R : Option xV} {H' : xH} (hD : 0 ≤ d) (hf : f_Sets_keepMove_e v1 v2 h = some o) (K0 : ∀ (h1 : xH), o = h1 → R = none ∧ H' = h1) : xEv g l d 44 0 [(0, xr 5 (some 0)), (1, xi v1), (2, xi v2)] [] h R H' := by
  unfold f_Sets_keepMove_e at hf
  refine xs_aload_n d44_0 rfl ?_
  refine xe_geti d44_1 ky44 fl132 fk5_7 ?_
  refine xs_iconst (v := -1) d44_4 (by decide) ?_
  rcases lk_if hf with ⟨hc1, hf⟩ | ⟨hc1, hf⟩
  · refine xs_icmp_eq (tgt := 16) d44_5 (by decide) (fun _ => ?_) (fun hn => absurd hc1 hn)
    exact f_Sets_keepMove_b16_ok hD hf K0
  · refine xs_icmp_eq (tgt := 16) d44_5 (by decide) (fun hp => absurd hp hc1) (fun _ => ?_)
    refine xs_iload_n d44_8 rfl ?_
    refine xs_aload_n d44_9 rfl ?_
    refine xe_geti d44_10 ky44 fl130 fk5_6 ?_
    rcases lk_if hf with ⟨hc4, hf⟩ | ⟨hc4, hf⟩
    · refine xs_icmp_le (tgt := 26) d44_13 (by decide) (fun _ => ?_) (fun hn => absurd hc4 hn)
      obtain ⟨eR, eH⟩ := K0 _ (Option.some.inj hf).symm
      subst eR; subst eH
      exact xs_vret d44_26 rt44
    · refine xs_icmp_le (tgt := 26) d44_13 (by decide) (fun hp => absurd hp hc4) (fun _ => ?_)
      exact f_Sets_keepMove_b16_ok hD hf K0
noncomputable def f_Sets_keepMove (v1 : Int32) (v2 : Int32) (h : xH) : Option xH := f_Sets_keepMove_e v1 v2 h
theorem f_Sets_keepMove_ok {g : xG} {l : Launch} {d : Nat} {v1 : Int32} {v2 : Int32} {h : xH} {h1 : xH} (hD : 0 ≤ d) (hf : f_Sets_keepMove v1 v2 h = some h1) : xC g l d 44 [xr 5 (some 0), xi v1, xi v2] h none h1 :=
  xC_of (by decide) (Nat.le_of_ble_eq_true rfl) (f_Sets_keepMove_e_ok hD hf (fun _ e => ⟨rfl, e⟩))
theorem d43_0 : decode (xcode 43) 0 = .ok (.aload_n 0, 1) := by decide +kernel
theorem d43_1 : decode (xcode 43) 1 = .ok (.iconst 0, 1) := by decide +kernel
theorem d43_2 : decode (xcode 43) 2 = .ok (.putfield 129, 3) := by decide +kernel
theorem d43_5 : decode (xcode 43) 5 = .ok (.aload_n 0, 1) := by decide +kernel
theorem d43_6 : decode (xcode 43) 6 = .ok (.iconst (-1), 1) := by decide +kernel
theorem d43_7 : decode (xcode 43) 7 = .ok (.putfield 132, 3) := by decide +kernel
theorem d43_10 : decode (xcode 43) 10 = .ok (.iconst 0, 1) := by decide +kernel
theorem d43_11 : decode (xcode 43) 11 = .ok (.istore_n 3, 1) := by decide +kernel
theorem d43_12 : decode (xcode 43) 12 = .ok (.iload_n 3, 1) := by decide +kernel
theorem d43_13 : decode (xcode 43) 13 = .ok (.sipush 256, 3) := by decide +kernel
theorem d43_16 : decode (xcode 43) 16 = .ok (.if_icmp .ge 104, 3) := by decide +kernel
theorem d43_19 : decode (xcode 43) 19 = .ok (.iload_n 3, 1) := by decide +kernel
theorem d43_20 : decode (xcode 43) 20 = .ok (.aload_n 2, 1) := by decide +kernel
theorem d43_21 : decode (xcode 43) 21 = .ok (.getfield 68, 3) := by decide +kernel
theorem d43_24 : decode (xcode 43) 24 = .ok (.iconst (-1), 1) := by decide +kernel
theorem d43_25 : decode (xcode 43) 25 = .ok (.ixor, 1) := by decide +kernel
theorem d43_26 : decode (xcode 43) 26 = .ok (.iand, 1) := by decide +kernel
theorem d43_27 : decode (xcode 43) 27 = .ok (.ifCond .ne 87, 3) := by decide +kernel
theorem d43_30 : decode (xcode 43) 30 = .ok (.aload_n 0, 1) := by decide +kernel
theorem d43_31 : decode (xcode 43) 31 = .ok (.iconst (-1), 1) := by decide +kernel
theorem d43_32 : decode (xcode 43) 32 = .ok (.putfield 132, 3) := by decide +kernel
theorem d43_35 : decode (xcode 43) 35 = .ok (.aload_n 0, 1) := by decide +kernel
theorem d43_36 : decode (xcode 43) 36 = .ok (.iconst 0, 1) := by decide +kernel
theorem d43_37 : decode (xcode 43) 37 = .ok (.putfield 129, 3) := by decide +kernel
theorem d43_40 : decode (xcode 43) 40 = .ok (.iconst 0, 1) := by decide +kernel
theorem d43_41 : decode (xcode 43) 41 = .ok (.istore 4, 2) := by decide +kernel
theorem d43_43 : decode (xcode 43) 43 = .ok (.iload 4, 2) := by decide +kernel
theorem d43_45 : decode (xcode 43) 45 = .ok (.bipush 8, 2) := by decide +kernel
theorem d43_47 : decode (xcode 43) 47 = .ok (.if_icmp .ge 57, 3) := by decide +kernel
theorem d43_50 : decode (xcode 43) 50 = .ok (.iload_n 3, 1) := by decide +kernel
theorem d43_51 : decode (xcode 43) 51 = .ok (.iload 4, 2) := by decide +kernel
theorem d43_53 : decode (xcode 43) 53 = .ok (.invokestatic 78, 3) := by decide +kernel
theorem d43_56 : decode (xcode 43) 56 = .ok (.ifCond .eq 42, 3) := by decide +kernel
theorem d43_59 : decode (xcode 43) 59 = .ok (.aload_n 2, 1) := by decide +kernel
theorem d43_60 : decode (xcode 43) 60 = .ok (.getfield 82, 3) := by decide +kernel
theorem d43_63 : decode (xcode 43) 63 = .ok (.iload 4, 2) := by decide +kernel
theorem d43_65 : decode (xcode 43) 65 = .ok (.iaload, 1) := by decide +kernel
theorem d43_66 : decode (xcode 43) 66 = .ok (.iload_n 3, 1) := by decide +kernel
theorem d43_67 : decode (xcode 43) 67 = .ok (.iand, 1) := by decide +kernel
theorem d43_68 : decode (xcode 43) 68 = .ok (.ifCond .ne 30, 3) := by decide +kernel
theorem d43_71 : decode (xcode 43) 71 = .ok (.aload_n 0, 1) := by decide +kernel
theorem d43_72 : decode (xcode 43) 72 = .ok (.aload_n 1, 1) := by decide +kernel
theorem d43_73 : decode (xcode 43) 73 = .ok (.getfield 40, 3) := by decide +kernel
theorem d43_76 : decode (xcode 43) 76 = .ok (.iload 4, 2) := by decide +kernel
theorem d43_78 : decode (xcode 43) 78 = .ok (.iaload, 1) := by decide +kernel
theorem d43_79 : decode (xcode 43) 79 = .ok (.aload_n 0, 1) := by decide +kernel
theorem d43_80 : decode (xcode 43) 80 = .ok (.getfield 21, 3) := by decide +kernel
theorem d43_83 : decode (xcode 43) 83 = .ok (.iload_n 3, 1) := by decide +kernel
theorem d43_84 : decode (xcode 43) 84 = .ok (.iconst 1, 1) := by decide +kernel
theorem d43_85 : decode (xcode 43) 85 = .ok (.iload 4, 2) := by decide +kernel
theorem d43_87 : decode (xcode 43) 87 = .ok (.ishl, 1) := by decide +kernel
theorem d43_88 : decode (xcode 43) 88 = .ok (.iconst (-1), 1) := by decide +kernel
theorem d43_89 : decode (xcode 43) 89 = .ok (.ixor, 1) := by decide +kernel
theorem d43_90 : decode (xcode 43) 90 = .ok (.iand, 1) := by decide +kernel
theorem d43_91 : decode (xcode 43) 91 = .ok (.iaload, 1) := by decide +kernel
theorem d43_92 : decode (xcode 43) 92 = .ok (.isub, 1) := by decide +kernel
theorem d43_93 : decode (xcode 43) 93 = .ok (.iload 4, 2) := by decide +kernel
theorem d43_95 : decode (xcode 43) 95 = .ok (.invokevirtual 135, 3) := by decide +kernel
theorem d43_98 : decode (xcode 43) 98 = .ok (.iinc 4 1, 3) := by decide +kernel
theorem d43_101 : decode (xcode 43) 101 = .ok (.goto (-58), 3) := by decide +kernel
theorem d43_104 : decode (xcode 43) 104 = .ok (.aload_n 0, 1) := by decide +kernel
theorem d43_105 : decode (xcode 43) 105 = .ok (.getfield 21, 3) := by decide +kernel
theorem d43_108 : decode (xcode 43) 108 = .ok (.iload_n 3, 1) := by decide +kernel
theorem d43_109 : decode (xcode 43) 109 = .ok (.aload_n 0, 1) := by decide +kernel
theorem d43_110 : decode (xcode 43) 110 = .ok (.getfield 129, 3) := by decide +kernel
theorem d43_113 : decode (xcode 43) 113 = .ok (.iastore, 1) := by decide +kernel
theorem d43_114 : decode (xcode 43) 114 = .ok (.iinc 3 1, 3) := by decide +kernel
theorem d43_117 : decode (xcode 43) 117 = .ok (.goto (-105), 3) := by decide +kernel
theorem d43_120 : decode (xcode 43) 120 = .ok (.return_, 1) := by decide +kernel
noncomputable def f_Sets_findGame_b114 (i1 : Nat) (i2 : Nat) (v3 : Int32) (h : xH) : Option ((Int32 × xH) ⊕ xH) :=
  xlet (v3 + (1 : Int32)) fun v3_10 =>
  some (Sum.inl (v3_10, h))
set_option maxHeartbeats 4000000 in
set_option maxRecDepth 100000 in
theorem f_Sets_findGame_b114_ok {g : xG} {l : Launch} {d : Nat} {i1 : Nat} {i2 : Nat} {v3 : Int32} {h : xH} {o : ((Int32 × xH) ⊕ xH)} {R : Option xV} {H' : xH} (hD : 1 ≤ d) (hf : f_Sets_findGame_b114 i1 i2 v3 h = some o) (K1 : ∀ (w3 : Int32) (h1 : xH), o = Sum.inl (w3, h1) → xEv g l d 43 12 [(0, xr 5 (some 0)), (1, xr 8 (some i1)), (2, xr 6 (some i2)), (3, xi w3)] [] h1 R H') (K0 : ∀ (h1 : xH), o = Sum.inr (h1) → R = none ∧ H' = h1) : xEv g l d 43 114 [(0, xr 5 (some 0)), (1, xr 8 (some i1)), (2, xr 6 (some i2)), (3, xi v3)] [] h R H' := by
  unfold f_Sets_findGame_b114 at hf
  obtain ⟨v3_10, ev3_10, hf⟩ := lk_let hf
  refine xe_iinc (v := v3_10) (b := 1) (ls2 := [(0, xr 5 (some 0)), (1, xr 8 (some i1)), (2, xr 6 (some i2)), (3, xi v3_10)]) d43_114 mx43 (by decide) rfl (by decide) ev3_10 rfl ?_
  refine xs_goto (tgt := 12) d43_117 (by decide) ?_
  exact K1 _ _ (Option.some.inj hf).symm
noncomputable def f_Sets_findGame_b104 (i1 : Nat) (i2 : Nat) (v3 : Int32) (h : xH) : Option ((Int32 × xH) ⊕ xH) :=
  if xib v3 256 then (
  xlet (xsA h 25 0 (upd (h.2.2.2.1 25 0) (v3).toNatClampNeg (h.1 5 6 0))) fun h9 =>
  f_Sets_findGame_b114 i1 i2 v3 h9) else none
set_option maxHeartbeats 4000000 in
set_option maxRecDepth 100000 in
theorem f_Sets_findGame_b104_ok {g : xG} {l : Launch} {d : Nat} {i1 : Nat} {i2 : Nat} {v3 : Int32} {h : xH} {o : ((Int32 × xH) ⊕ xH)} {R : Option xV} {H' : xH} (hD : 1 ≤ d) (hf : f_Sets_findGame_b104 i1 i2 v3 h = some o) (K1 : ∀ (w3 : Int32) (h1 : xH), o = Sum.inl (w3, h1) → xEv g l d 43 12 [(0, xr 5 (some 0)), (1, xr 8 (some i1)), (2, xr 6 (some i2)), (3, xi w3)] [] h1 R H') (K0 : ∀ (h1 : xH), o = Sum.inr (h1) → R = none ∧ H' = h1) : xEv g l d 43 104 [(0, xr 5 (some 0)), (1, xr 8 (some i1)), (2, xr 6 (some i2)), (3, xi v3)] [] h R H' := by
  unfold f_Sets_findGame_b104 at hf
  refine xs_aload_n d43_104 rfl ?_
  refine xe_getc (j := 0) d43_105 ky43 fl136 fk5_10 rfl ?_
  refine xs_iload_n d43_108 rfl ?_
  refine xs_aload_n d43_109 rfl ?_
  refine xe_geti d43_110 ky43 fl130 fk5_6 ?_
  obtain ⟨hin8, hf⟩ := lk_g hf
  obtain ⟨h9, eh9, hf⟩ := lk_let hf
  refine xe_iast d43_113 (by decide) ak25 hin8  eh9 ?_
  exact f_Sets_findGame_b114_ok hD hf K1 K0
noncomputable def f_Sets_findGame_b98 (i1 : Nat) (i2 : Nat) (v3 : Int32) (v4 : Int32) (h : xH) : Option ((Int32 × xH) ⊕ ((Int32 × xH) ⊕ xH)) :=
  xlet (v4 + (1 : Int32)) fun v4_14 =>
  some (Sum.inl (v4_14, h))
set_option maxHeartbeats 4000000 in
set_option maxRecDepth 100000 in
theorem f_Sets_findGame_b98_ok {g : xG} {l : Launch} {d : Nat} {i1 : Nat} {i2 : Nat} {v3 : Int32} {v4 : Int32} {h : xH} {o : ((Int32 × xH) ⊕ ((Int32 × xH) ⊕ xH))} {R : Option xV} {H' : xH} (hD : 1 ≤ d) (hf : f_Sets_findGame_b98 i1 i2 v3 v4 h = some o) (K1 : ∀ (w3 : Int32) (h1 : xH), o = Sum.inr (Sum.inl (w3, h1)) → xEv g l d 43 12 [(0, xr 5 (some 0)), (1, xr 8 (some i1)), (2, xr 6 (some i2)), (3, xi w3)] [] h1 R H') (K2 : ∀ (w4 : Int32) (h1 : xH), o = Sum.inl (w4, h1) → xEv g l d 43 43 [(0, xr 5 (some 0)), (1, xr 8 (some i1)), (2, xr 6 (some i2)), (3, xi v3), (4, xi w4)] [] h1 R H') (K0 : ∀ (h1 : xH), o = Sum.inr (Sum.inr (h1)) → R = none ∧ H' = h1) : xEv g l d 43 98 [(0, xr 5 (some 0)), (1, xr 8 (some i1)), (2, xr 6 (some i2)), (3, xi v3), (4, xi v4)] [] h R H' := by
  unfold f_Sets_findGame_b98 at hf
  obtain ⟨v4_14, ev4_14, hf⟩ := lk_let hf
  refine xe_iinc (v := v4_14) (b := 1) (ls2 := [(0, xr 5 (some 0)), (1, xr 8 (some i1)), (2, xr 6 (some i2)), (3, xi v3), (4, xi v4_14)]) d43_98 mx43 (by decide) rfl (by decide) ev4_14 rfl ?_
  refine xs_goto (tgt := 43) d43_101 (by decide) ?_
  exact K2 _ _ (Option.some.inj hf).symm
noncomputable def f_Sets_findGame_s43 (i1 : Nat) (i2 : Nat) (v3 : Int32) (v4 : Int32) (h : xH) : Option ((Int32 × xH) ⊕ ((Int32 × xH) ⊕ xH)) :=
  if (8 : Int32) ≤ v4 then (
  xup (f_Sets_findGame_b104 i1 i2 v3 h)) else (
  (f_Sets_has v3 v4 h).bind fun r11 =>
  if r11 = (0 : Int32) then (
  f_Sets_findGame_b98 i1 i2 v3 v4 h) else (
  if xib v4 8 then (
  if ((h.2.2.2.1 30 i2 (v4).toNatClampNeg) &&& v3) = (0 : Int32) then (
  if xib v4 8 then (
  if xib (v3 &&& (((1 : Int32) <<< (v4 &&& 31)) ^^^ (-1 : Int32))) 256 then (
  (f_Sets_keepMove ((h.2.2.2.1 39 i1 (v4).toNatClampNeg) - (h.2.2.2.1 25 0 (v3 &&& (((1 : Int32) <<< (v4 &&& 31)) ^^^ (-1 : Int32))).toNatClampNeg)) v4 h).bind fun h21 =>
  f_Sets_findGame_b98 i1 i2 v3 v4 h21) else none) else none) else (
  f_Sets_findGame_b98 i1 i2 v3 v4 h)) else none))
set_option maxHeartbeats 4000000 in
set_option maxRecDepth 100000 in
theorem f_Sets_findGame_s43_ok {g : xG} {l : Launch} {d : Nat} {i1 : Nat} {i2 : Nat} {v3 : Int32} {v4 : Int32} {h : xH} {o : ((Int32 × xH) ⊕ ((Int32 × xH) ⊕ xH))} {R : Option xV} {H' : xH} (hD : 1 ≤ d) (hf : f_Sets_findGame_s43 i1 i2 v3 v4 h = some o) (K1 : ∀ (w3 : Int32) (h1 : xH), o = Sum.inr (Sum.inl (w3, h1)) → xEv g l d 43 12 [(0, xr 5 (some 0)), (1, xr 8 (some i1)), (2, xr 6 (some i2)), (3, xi w3)] [] h1 R H') (K2 : ∀ (w4 : Int32) (h1 : xH), o = Sum.inl (w4, h1) → xEv g l d 43 43 [(0, xr 5 (some 0)), (1, xr 8 (some i1)), (2, xr 6 (some i2)), (3, xi v3), (4, xi w4)] [] h1 R H') (K0 : ∀ (h1 : xH), o = Sum.inr (Sum.inr (h1)) → R = none ∧ H' = h1) : xEv g l d 43 43 [(0, xr 5 (some 0)), (1, xr 8 (some i1)), (2, xr 6 (some i2)), (3, xi v3), (4, xi v4)] [] h R H' := by
  unfold f_Sets_findGame_s43 at hf
  refine xs_iload d43_43 rfl ?_
  refine xs_bipush (v := 8) d43_45 (by decide) ?_
  rcases lk_if hf with ⟨hc7, hf⟩ | ⟨hc7, hf⟩
  · refine xs_icmp_ge (tgt := 104) d43_47 (by decide) (fun _ => ?_) (fun hn => absurd hc7 hn)
    refine xs_pick [0, 1, 2, 3] rfl ?_
    obtain ⟨x0, hf, ex0⟩ := lk_up hf
    exact f_Sets_findGame_b104_ok hD hf (fun u0 u1 e => K1 u0 u1 (ex0.trans (congrArg Sum.inr e))) (fun u0 e => K0 u0 (ex0.trans (congrArg Sum.inr e)))
  · refine xs_icmp_ge (tgt := 104) d43_47 (by decide) (fun hp => absurd hp hc7) (fun _ => ?_)
    refine xs_iload_n d43_50 rfl ?_
    refine xs_iload d43_51 rfl ?_
    obtain ⟨r11, hc12, hf⟩ := lk_b hf
    refine xe_calls1 (as := [xi v3, xi v4]) (st := []) (h2 := h) (d2 := d - 1) d43_53 ky43 ml118 st28 rfl na28 (Nat.le_of_ble_eq_true rfl) (by omega) (f_Sets_has_ok (by omega) hc12) ?_
    rcases lk_if hf with ⟨hc13, hf⟩ | ⟨hc13, hf⟩
    · refine xs_if_eq (tgt := 98) d43_56 (by decide) (fun _ => ?_) (fun hn => absurd hc13 hn)
      exact f_Sets_findGame_b98_ok hD hf K1 K2 K0
    · refine xs_if_eq (tgt := 98) d43_56 (by decide) (fun hp => absurd hp hc13) (fun _ => ?_)
      refine xs_aload_n d43_59 rfl ?_
      refine xe_getc (j := i2) d43_60 ky43 fl85 fk6_5 (by omega) ?_
      refine xs_iload d43_63 rfl ?_
      obtain ⟨hin15, hf⟩ := lk_g hf
      refine xe_iald d43_65 (by decide) ak30 hin15 ?_
      refine xs_iload_n d43_66 rfl ?_
      refine xs_iand d43_67 ?_
      rcases lk_if hf with ⟨hc16, hf⟩ | ⟨hc16, hf⟩
      · refine xs_if_ne (tgt := 98) d43_68 (by decide) (fun _ => ?_) (fun hn => absurd hc16 hn)
        refine xs_aload_n d43_71 rfl ?_
        refine xs_aload_n d43_72 rfl ?_
        refine xe_getc (j := i1) d43_73 ky43 fl44 fk8_7 (by omega) ?_
        refine xs_iload d43_76 rfl ?_
        obtain ⟨hin17, hf⟩ := lk_g hf
        refine xe_iald d43_78 (by decide) ak39 hin17 ?_
        refine xs_aload_n d43_79 rfl ?_
        refine xe_getc (j := 0) d43_80 ky43 fl136 fk5_10 rfl ?_
        refine xs_iload_n d43_83 rfl ?_
        refine xs_iconst (v := 1) d43_84 (by decide) ?_
        refine xs_iload d43_85 rfl ?_
        refine xs_ishl d43_87 ?_
        refine xs_iconst (v := -1) d43_88 (by decide) ?_
        refine xs_ixor d43_89 ?_
        refine xs_iand d43_90 ?_
        obtain ⟨hin18, hf⟩ := lk_g hf
        refine xe_iald d43_91 (by decide) ak25 hin18 ?_
        refine xs_isub d43_92 ?_
        refine xs_iload d43_93 rfl ?_
        obtain ⟨h21, hc20, hf⟩ := lk_b hf
        refine xe_callv0 (as := [xi ((h.2.2.2.1 39 i1 (v4).toNatClampNeg) - (h.2.2.2.1 25 0 (v3 &&& (((1 : Int32) <<< (v4 &&& 31)) ^^^ (-1 : Int32))).toNatClampNeg)), xi v4]) (st := []) (h2 := h21) (d2 := d - 1) d43_95 ky43 ml149 st44 (by decide) cn44 rfl na44 (Nat.le_of_ble_eq_true rfl) (by omega) (f_Sets_keepMove_ok (by omega) hc20) ?_
        exact f_Sets_findGame_b98_ok hD hf K1 K2 K0
      · refine xs_if_ne (tgt := 98) d43_68 (by decide) (fun hp => absurd hp hc16) (fun _ => ?_)
        exact f_Sets_findGame_b98_ok hD hf K1 K2 K0
noncomputable def f_Sets_findGame_l43 (i1 : Nat) (i2 : Nat) (v3 : Int32) (v4 : Int32) (h : xH) : Option ((Int32 × xH) ⊕ xH) :=
  whl (fun s => f_Sets_findGame_s43 i1 i2 v3 s.1 s.2) (v4, h)
theorem f_Sets_findGame_l43_ok {g : xG} {l : Launch} {d : Nat} {i1 : Nat} {i2 : Nat} {v3 : Int32} {v4 : Int32} {h : xH} {o : ((Int32 × xH) ⊕ xH)} {R : Option xV} {H' : xH} (hD : 1 ≤ d) (hf : f_Sets_findGame_l43 i1 i2 v3 v4 h = some o) (K1 : ∀ (w3 : Int32) (h1 : xH), o = Sum.inl (w3, h1) → xEv g l d 43 12 [(0, xr 5 (some 0)), (1, xr 8 (some i1)), (2, xr 6 (some i2)), (3, xi w3)] [] h1 R H') (K0 : ∀ (h1 : xH), o = Sum.inr (h1) → R = none ∧ H' = h1) : xEv g l d 43 43 [(0, xr 5 (some 0)), (1, xr 8 (some i1)), (2, xr 6 (some i2)), (3, xi v3), (4, xi v4)] [] h R H' := by
  obtain ⟨n, hn⟩ := whl_iff.mp hf
  clear hf
  induction n generalizing v4 h with
  | zero => cases hn
  | succ n ih =>
    obtain ⟨o2, hs, hn⟩ := lk_b (show (f_Sets_findGame_s43 i1 i2 v3 v4 h).bind (fun o => Sum.elim (itn _ n) some o) = some o from hn)
    exact f_Sets_findGame_s43_ok hD hs (fun u0 u1 e => K1 u0 u1 (by rw [e] at hn; exact (Option.some.inj hn).symm)) (fun u0 u1 e => ih (by rw [e] at hn; exact hn)) (fun u0 e => K0 u0 (by rw [e] at hn; exact (Option.some.inj hn).symm))
noncomputable def f_Sets_findGame_s12 (i1 : Nat) (i2 : Nat) (v3 : Int32) (h : xH) : Option ((Int32 × xH) ⊕ xH) :=
  if (256 : Int32) ≤ v3 then (
  some (Sum.inr (h))) else (
  if (v3 &&& ((h.1 6 2 i2) ^^^ (-1 : Int32))) = (0 : Int32) then (
  xlet (xsI h 5 7 0 (-1 : Int32)) fun h5 =>
  xlet (xsI h5 5 6 0 (0 : Int32)) fun h6 =>
  f_Sets_findGame_l43 i1 i2 v3 (0 : Int32) h6) else (
  f_Sets_findGame_b114 i1 i2 v3 h))
set_option maxHeartbeats 4000000 in
set_option maxRecDepth 100000 in
theorem f_Sets_findGame_s12_ok {g : xG} {l : Launch} {d : Nat} {i1 : Nat} {i2 : Nat} {v3 : Int32} {h : xH} {o : ((Int32 × xH) ⊕ xH)} {R : Option xV} {H' : xH} (hD : 1 ≤ d) (hf : f_Sets_findGame_s12 i1 i2 v3 h = some o) (K1 : ∀ (w3 : Int32) (h1 : xH), o = Sum.inl (w3, h1) → xEv g l d 43 12 [(0, xr 5 (some 0)), (1, xr 8 (some i1)), (2, xr 6 (some i2)), (3, xi w3)] [] h1 R H') (K0 : ∀ (h1 : xH), o = Sum.inr (h1) → R = none ∧ H' = h1) : xEv g l d 43 12 [(0, xr 5 (some 0)), (1, xr 8 (some i1)), (2, xr 6 (some i2)), (3, xi v3)] [] h R H' := by
  unfold f_Sets_findGame_s12 at hf
  refine xs_iload_n d43_12 rfl ?_
  refine xs_sipush (v := 256) d43_13 (by decide) ?_
  rcases lk_if hf with ⟨hc3, hf⟩ | ⟨hc3, hf⟩
  · refine xs_icmp_ge (tgt := 120) d43_16 (by decide) (fun _ => ?_) (fun hn => absurd hc3 hn)
    obtain ⟨eR, eH⟩ := K0 _ (Option.some.inj hf).symm
    subst eR; subst eH
    exact xs_vret d43_120 rt43
  · refine xs_icmp_ge (tgt := 120) d43_16 (by decide) (fun hp => absurd hp hc3) (fun _ => ?_)
    refine xs_iload_n d43_19 rfl ?_
    refine xs_aload_n d43_20 rfl ?_
    refine xe_geti d43_21 ky43 fl76 fk6_2 ?_
    refine xs_iconst (v := -1) d43_24 (by decide) ?_
    refine xs_ixor d43_25 ?_
    refine xs_iand d43_26 ?_
    rcases lk_if hf with ⟨hc4, hf⟩ | ⟨hc4, hf⟩
    · refine xs_if_ne (tgt := 114) d43_27 (by decide) (fun _ => ?_) (fun hn => absurd hc4 hn)
      refine xs_aload_n d43_30 rfl ?_
      refine xs_iconst (v := -1) d43_31 (by decide) ?_
      obtain ⟨h5, eh5, hf⟩ := lk_let hf
      refine xe_puti d43_32 ky43 fl132 fk5_7 ft5_7 eh5 ?_
      refine xs_aload_n d43_35 rfl ?_
      refine xs_iconst (v := 0) d43_36 (by decide) ?_
      obtain ⟨h6, eh6, hf⟩ := lk_let hf
      refine xe_puti d43_37 ky43 fl130 fk5_6 ft5_6 eh6 ?_
      refine xs_iconst (v := 0) d43_40 (by decide) ?_
      refine xe_istore (v := (0 : Int32)) (ls2 := [(0, xr 5 (some 0)), (1, xr 8 (some i1)), (2, xr 6 (some i2)), (3, xi v3), (4, xi (0 : Int32))]) d43_41 mx43 (by decide) rfl rfl ?_
      exact f_Sets_findGame_l43_ok hD hf K1 K0
    · refine xs_if_ne (tgt := 114) d43_27 (by decide) (fun hp => absurd hp hc4) (fun _ => ?_)
      exact f_Sets_findGame_b114_ok hD hf K1 K0
noncomputable def f_Sets_findGame_l12 (i1 : Nat) (i2 : Nat) (v3 : Int32) (h : xH) : Option xH :=
  whl (fun s => f_Sets_findGame_s12 i1 i2 s.1 s.2) (v3, h)
theorem f_Sets_findGame_l12_ok {g : xG} {l : Launch} {d : Nat} {i1 : Nat} {i2 : Nat} {v3 : Int32} {h : xH} {o : xH} {R : Option xV} {H' : xH} (hD : 1 ≤ d) (hf : f_Sets_findGame_l12 i1 i2 v3 h = some o) (K0 : ∀ (h1 : xH), o = h1 → R = none ∧ H' = h1) : xEv g l d 43 12 [(0, xr 5 (some 0)), (1, xr 8 (some i1)), (2, xr 6 (some i2)), (3, xi v3)] [] h R H' := by
  obtain ⟨n, hn⟩ := whl_iff.mp hf
  clear hf
  induction n generalizing v3 h with
  | zero => cases hn
  | succ n ih =>
    obtain ⟨o2, hs, hn⟩ := lk_b (show (f_Sets_findGame_s12 i1 i2 v3 h).bind (fun o => Sum.elim (itn _ n) some o) = some o from hn)
    exact f_Sets_findGame_s12_ok hD hs (fun u0 u1 e => ih (by rw [e] at hn; exact hn)) (fun u0 e => K0 u0 (by rw [e] at hn; exact (Option.some.inj hn).symm))
noncomputable def f_Sets_findGame_e (i1 : Nat) (i2 : Nat) (h : xH) : Option xH :=
  xlet (xsI h 5 6 0 (0 : Int32)) fun h1 =>
  xlet (xsI h1 5 7 0 (-1 : Int32)) fun h2 =>
  f_Sets_findGame_l12 i1 i2 (0 : Int32) h2
set_option maxHeartbeats 4000000 in
set_option maxRecDepth 100000 in
theorem f_Sets_findGame_e_ok {g : xG} {l : Launch} {d : Nat} {i1 : Nat} {i2 : Nat} {h : xH} {o : xH} {R : Option xV} {H' : xH} (hD : 1 ≤ d) (hf : f_Sets_findGame_e i1 i2 h = some o) (K0 : ∀ (h1 : xH), o = h1 → R = none ∧ H' = h1) : xEv g l d 43 0 [(0, xr 5 (some 0)), (1, xr 8 (some i1)), (2, xr 6 (some i2))] [] h R H' := by
  unfold f_Sets_findGame_e at hf
  refine xs_aload_n d43_0 rfl ?_
  refine xs_iconst (v := 0) d43_1 (by decide) ?_
  obtain ⟨h1, eh1, hf⟩ := lk_let hf
  refine xe_puti d43_2 ky43 fl130 fk5_6 ft5_6 eh1 ?_
  refine xs_aload_n d43_5 rfl ?_
  refine xs_iconst (v := -1) d43_6 (by decide) ?_
  obtain ⟨h2, eh2, hf⟩ := lk_let hf
  refine xe_puti d43_7 ky43 fl132 fk5_7 ft5_7 eh2 ?_
  refine xs_iconst (v := 0) d43_10 (by decide) ?_
  refine xe_istore_n (v := (0 : Int32)) (ls2 := [(0, xr 5 (some 0)), (1, xr 8 (some i1)), (2, xr 6 (some i2)), (3, xi (0 : Int32))]) d43_11 mx43 (by decide) rfl rfl ?_
  exact f_Sets_findGame_l12_ok hD hf K0
noncomputable def f_Sets_findGame (i1 : Nat) (i2 : Nat) (h : xH) : Option xH := f_Sets_findGame_e i1 i2 h
theorem f_Sets_findGame_ok {g : xG} {l : Launch} {d : Nat} {i1 : Nat} {i2 : Nat} {h : xH} {h1 : xH} (hD : 1 ≤ d) (hf : f_Sets_findGame i1 i2 h = some h1) : xC g l d 43 [xr 5 (some 0), xr 8 (some i1), xr 6 (some i2)] h none h1 :=
  xC_of (by decide) (Nat.le_of_ble_eq_true rfl) (f_Sets_findGame_e_ok hD hf (fun _ e => ⟨rfl, e⟩))
theorem d45_0 : decode (xcode 45) 0 = .ok (.aload_n 0, 1) := by decide +kernel
theorem d45_1 : decode (xcode 45) 1 = .ok (.iconst 0, 1) := by decide +kernel
theorem d45_2 : decode (xcode 45) 2 = .ok (.putfield 24, 3) := by decide +kernel
theorem d45_5 : decode (xcode 45) 5 = .ok (.aload_n 0, 1) := by decide +kernel
theorem d45_6 : decode (xcode 45) 6 = .ok (.iconst 0, 1) := by decide +kernel
theorem d45_7 : decode (xcode 45) 7 = .ok (.putfield 28, 3) := by decide +kernel
theorem d45_10 : decode (xcode 45) 10 = .ok (.aload_n 0, 1) := by decide +kernel
theorem d45_11 : decode (xcode 45) 11 = .ok (.iconst 1, 1) := by decide +kernel
theorem d45_12 : decode (xcode 45) 12 = .ok (.aload_n 1, 1) := by decide +kernel
theorem d45_13 : decode (xcode 45) 13 = .ok (.getfield 31, 3) := by decide +kernel
theorem d45_16 : decode (xcode 45) 16 = .ok (.ishl, 1) := by decide +kernel
theorem d45_17 : decode (xcode 45) 17 = .ok (.iconst 1, 1) := by decide +kernel
theorem d45_18 : decode (xcode 45) 18 = .ok (.isub, 1) := by decide +kernel
theorem d45_19 : decode (xcode 45) 19 = .ok (.putfield 36, 3) := by decide +kernel
theorem d45_22 : decode (xcode 45) 22 = .ok (.aload_n 0, 1) := by decide +kernel
theorem d45_23 : decode (xcode 45) 23 = .ok (.iconst 0, 1) := by decide +kernel
theorem d45_24 : decode (xcode 45) 24 = .ok (.putfield 39, 3) := by decide +kernel
theorem d45_27 : decode (xcode 45) 27 = .ok (.iconst 0, 1) := by decide +kernel
theorem d45_28 : decode (xcode 45) 28 = .ok (.istore_n 2, 1) := by decide +kernel
theorem d45_29 : decode (xcode 45) 29 = .ok (.iload_n 2, 1) := by decide +kernel
theorem d45_30 : decode (xcode 45) 30 = .ok (.bipush 8, 2) := by decide +kernel
theorem d45_32 : decode (xcode 45) 32 = .ok (.if_icmp .ge 16, 3) := by decide +kernel
theorem d45_35 : decode (xcode 45) 35 = .ok (.aload_n 0, 1) := by decide +kernel
theorem d45_36 : decode (xcode 45) 36 = .ok (.getfield 9, 3) := by decide +kernel
theorem d45_39 : decode (xcode 45) 39 = .ok (.iload_n 2, 1) := by decide +kernel
theorem d45_40 : decode (xcode 45) 40 = .ok (.iconst (-1), 1) := by decide +kernel
theorem d45_41 : decode (xcode 45) 41 = .ok (.iastore, 1) := by decide +kernel
theorem d45_42 : decode (xcode 45) 42 = .ok (.iinc 2 1, 3) := by decide +kernel
theorem d45_45 : decode (xcode 45) 45 = .ok (.goto (-16), 3) := by decide +kernel
theorem d45_48 : decode (xcode 45) 48 = .ok (.aload_n 1, 1) := by decide +kernel
theorem d45_49 : decode (xcode 45) 49 = .ok (.getfield 42, 3) := by decide +kernel
theorem d45_52 : decode (xcode 45) 52 = .ok (.iconst 0, 1) := by decide +kernel
theorem d45_53 : decode (xcode 45) 53 = .ok (.aload_n 0, 1) := by decide +kernel
theorem d45_54 : decode (xcode 45) 54 = .ok (.getfield 15, 3) := by decide +kernel
theorem d45_57 : decode (xcode 45) 57 = .ok (.iconst 0, 1) := by decide +kernel
theorem d45_58 : decode (xcode 45) 58 = .ok (.bipush 8, 2) := by decide +kernel
theorem d45_60 : decode (xcode 45) 60 = .ok (.invokestatic 43, 3) := by decide +kernel
theorem d45_63 : decode (xcode 45) 63 = .ok (.aload_n 1, 1) := by decide +kernel
theorem d45_64 : decode (xcode 45) 64 = .ok (.getfield 49, 3) := by decide +kernel
theorem d45_67 : decode (xcode 45) 67 = .ok (.iconst 0, 1) := by decide +kernel
theorem d45_68 : decode (xcode 45) 68 = .ok (.aload_n 0, 1) := by decide +kernel
theorem d45_69 : decode (xcode 45) 69 = .ok (.getfield 18, 3) := by decide +kernel
theorem d45_72 : decode (xcode 45) 72 = .ok (.iconst 0, 1) := by decide +kernel
theorem d45_73 : decode (xcode 45) 73 = .ok (.bipush 8, 2) := by decide +kernel
theorem d45_75 : decode (xcode 45) 75 = .ok (.invokestatic 43, 3) := by decide +kernel
theorem d45_78 : decode (xcode 45) 78 = .ok (.aload_n 1, 1) := by decide +kernel
theorem d45_79 : decode (xcode 45) 79 = .ok (.getfield 50, 3) := by decide +kernel
theorem d45_82 : decode (xcode 45) 82 = .ok (.iconst 0, 1) := by decide +kernel
theorem d45_83 : decode (xcode 45) 83 = .ok (.aload_n 0, 1) := by decide +kernel
theorem d45_84 : decode (xcode 45) 84 = .ok (.getfield 21, 3) := by decide +kernel
theorem d45_87 : decode (xcode 45) 87 = .ok (.iconst 0, 1) := by decide +kernel
theorem d45_88 : decode (xcode 45) 88 = .ok (.bipush 8, 2) := by decide +kernel
theorem d45_90 : decode (xcode 45) 90 = .ok (.invokestatic 43, 3) := by decide +kernel
theorem d45_93 : decode (xcode 45) 93 = .ok (.return_, 1) := by decide +kernel
noncomputable def f_State_begin_b48 (i0 : Nat) (i1 : Nat) (h : xH) : Option xH :=
  if ¬ (0 : Int32) < 0 ∧ ¬ (0 : Int32) < 0 ∧ ¬ (8 : Int32) < 0 ∧ ((0 : Int32)).toNatClampNeg + ((8 : Int32)).toNatClampNeg ≤ 8 ∧ ((0 : Int32)).toNatClampNeg + ((8 : Int32)).toNatClampNeg ≤ 8 then (
  xlet (xsA h 30 i0 (va_cpy (h.2.2.2.1 40 i1) (h.2.2.2.1 30 i0) ((0 : Int32)).toNatClampNeg ((0 : Int32)).toNatClampNeg ((8 : Int32)).toNatClampNeg)) fun h7 =>
  if ¬ (0 : Int32) < 0 ∧ ¬ (0 : Int32) < 0 ∧ ¬ (8 : Int32) < 0 ∧ ((0 : Int32)).toNatClampNeg + ((8 : Int32)).toNatClampNeg ≤ 8 ∧ ((0 : Int32)).toNatClampNeg + ((8 : Int32)).toNatClampNeg ≤ 8 then (
  xlet (xsA h7 31 i0 (va_cpy (h7.2.2.2.1 37 i1) (h7.2.2.2.1 31 i0) ((0 : Int32)).toNatClampNeg ((0 : Int32)).toNatClampNeg ((8 : Int32)).toNatClampNeg)) fun h9 =>
  if ¬ (0 : Int32) < 0 ∧ ¬ (0 : Int32) < 0 ∧ ¬ (8 : Int32) < 0 ∧ ((0 : Int32)).toNatClampNeg + ((8 : Int32)).toNatClampNeg ≤ 8 ∧ ((0 : Int32)).toNatClampNeg + ((8 : Int32)).toNatClampNeg ≤ 8 then (
  xlet (xsA h9 32 i0 (va_cpy (h9.2.2.2.1 38 i1) (h9.2.2.2.1 32 i0) ((0 : Int32)).toNatClampNeg ((0 : Int32)).toNatClampNeg ((8 : Int32)).toNatClampNeg)) fun h11 =>
  some (h11)) else none) else none) else none
set_option maxHeartbeats 4000000 in
set_option maxRecDepth 100000 in
theorem f_State_begin_b48_ok {g : xG} {l : Launch} {d : Nat} {i0 : Nat} {i1 : Nat} {h : xH} {o : xH} {R : Option xV} {H' : xH} (hD : 1 ≤ d) (hf : f_State_begin_b48 i0 i1 h = some o) (K0 : ∀ (h1 : xH), o = h1 → R = none ∧ H' = h1) : xEv g l d 45 48 [(0, xr 6 (some i0)), (1, xr 8 (some i1))] [] h R H' := by
  unfold f_State_begin_b48 at hf
  refine xs_aload_n d45_48 rfl ?_
  refine xe_getc (j := i1) d45_49 ky45 fl49 fk8_8 (by omega) ?_
  refine xs_iconst (v := 0) d45_52 (by decide) ?_
  refine xs_aload_n d45_53 rfl ?_
  refine xe_getc (j := i0) d45_54 ky45 fl84 fk6_5 (by omega) ?_
  refine xs_iconst (v := 0) d45_57 (by decide) ?_
  refine xs_bipush (v := 8) d45_58 (by decide) ?_
  obtain ⟨hin6, hf⟩ := lk_g hf
  obtain ⟨h7, eh7, hf⟩ := lk_let hf
  refine xe_copy d45_60 ky45 cp6_43 cpw (by decide) ak40 (by decide) ak30 hin6 (Nat.le_of_ble_eq_true rfl) (by omega) eh7 ?_
  refine xs_aload_n d45_63 rfl ?_
  refine xe_getc (j := i1) d45_64 ky45 fl38 fk8_5 (by omega) ?_
  refine xs_iconst (v := 0) d45_67 (by decide) ?_
  refine xs_aload_n d45_68 rfl ?_
  refine xe_getc (j := i0) d45_69 ky45 fl87 fk6_6 (by omega) ?_
  refine xs_iconst (v := 0) d45_72 (by decide) ?_
  refine xs_bipush (v := 8) d45_73 (by decide) ?_
  obtain ⟨hin8, hf⟩ := lk_g hf
  obtain ⟨h9, eh9, hf⟩ := lk_let hf
  refine xe_copy d45_75 ky45 cp6_43 cpw (by decide) ak37 (by decide) ak31 hin8 (Nat.le_of_ble_eq_true rfl) (by omega) eh9 ?_
  refine xs_aload_n d45_78 rfl ?_
  refine xe_getc (j := i1) d45_79 ky45 fl41 fk8_6 (by omega) ?_
  refine xs_iconst (v := 0) d45_82 (by decide) ?_
  refine xs_aload_n d45_83 rfl ?_
  refine xe_getc (j := i0) d45_84 ky45 fl91 fk6_7 (by omega) ?_
  refine xs_iconst (v := 0) d45_87 (by decide) ?_
  refine xs_bipush (v := 8) d45_88 (by decide) ?_
  obtain ⟨hin10, hf⟩ := lk_g hf
  obtain ⟨h11, eh11, hf⟩ := lk_let hf
  refine xe_copy d45_90 ky45 cp6_43 cpw (by decide) ak38 (by decide) ak32 hin10 (Nat.le_of_ble_eq_true rfl) (by omega) eh11 ?_
  obtain ⟨eR, eH⟩ := K0 _ (Option.some.inj hf).symm
  subst eR; subst eH
  exact xs_vret d45_93 rt45
noncomputable def f_State_begin_s29 (i0 : Nat) (i1 : Nat) (v2 : Int32) (h : xH) : Option ((Int32 × xH) ⊕ xH) :=
  if (8 : Int32) ≤ v2 then (
  xup (f_State_begin_b48 i0 i1 h)) else (
  if xib v2 8 then (
  xlet (xsA h 29 i0 (upd (h.2.2.2.1 29 i0) (v2).toNatClampNeg (-1 : Int32))) fun h13 =>
  xlet (v2 + (1 : Int32)) fun v2_14 =>
  some (Sum.inl (v2_14, h13))) else none)
set_option maxHeartbeats 4000000 in
set_option maxRecDepth 100000 in
theorem f_State_begin_s29_ok {g : xG} {l : Launch} {d : Nat} {i0 : Nat} {i1 : Nat} {v2 : Int32} {h : xH} {o : ((Int32 × xH) ⊕ xH)} {R : Option xV} {H' : xH} (hD : 1 ≤ d) (hf : f_State_begin_s29 i0 i1 v2 h = some o) (K1 : ∀ (w2 : Int32) (h1 : xH), o = Sum.inl (w2, h1) → xEv g l d 45 29 [(0, xr 6 (some i0)), (1, xr 8 (some i1)), (2, xi w2)] [] h1 R H') (K0 : ∀ (h1 : xH), o = Sum.inr (h1) → R = none ∧ H' = h1) : xEv g l d 45 29 [(0, xr 6 (some i0)), (1, xr 8 (some i1)), (2, xi v2)] [] h R H' := by
  unfold f_State_begin_s29 at hf
  refine xs_iload_n d45_29 rfl ?_
  refine xs_bipush (v := 8) d45_30 (by decide) ?_
  rcases lk_if hf with ⟨hc5, hf⟩ | ⟨hc5, hf⟩
  · refine xs_icmp_ge (tgt := 48) d45_32 (by decide) (fun _ => ?_) (fun hn => absurd hc5 hn)
    refine xs_pick [0, 1] rfl ?_
    obtain ⟨x0, hf, ex0⟩ := lk_up hf
    exact f_State_begin_b48_ok hD hf (fun u0 e => K0 u0 (ex0.trans (congrArg Sum.inr e)))
  · refine xs_icmp_ge (tgt := 48) d45_32 (by decide) (fun hp => absurd hp hc5) (fun _ => ?_)
    refine xs_aload_n d45_35 rfl ?_
    refine xe_getc (j := i0) d45_36 ky45 fl82 fk6_4 (by omega) ?_
    refine xs_iload_n d45_39 rfl ?_
    refine xs_iconst (v := -1) d45_40 (by decide) ?_
    obtain ⟨hin12, hf⟩ := lk_g hf
    obtain ⟨h13, eh13, hf⟩ := lk_let hf
    refine xe_iast d45_41 (by decide) ak29 hin12  eh13 ?_
    obtain ⟨v2_14, ev2_14, hf⟩ := lk_let hf
    refine xe_iinc (v := v2_14) (b := 1) (ls2 := [(0, xr 6 (some i0)), (1, xr 8 (some i1)), (2, xi v2_14)]) d45_42 mx45 (by decide) rfl (by decide) ev2_14 rfl ?_
    refine xs_goto (tgt := 29) d45_45 (by decide) ?_
    exact K1 _ _ (Option.some.inj hf).symm
noncomputable def f_State_begin_l29 (i0 : Nat) (i1 : Nat) (v2 : Int32) (h : xH) : Option xH :=
  whl (fun s => f_State_begin_s29 i0 i1 s.1 s.2) (v2, h)
theorem f_State_begin_l29_ok {g : xG} {l : Launch} {d : Nat} {i0 : Nat} {i1 : Nat} {v2 : Int32} {h : xH} {o : xH} {R : Option xV} {H' : xH} (hD : 1 ≤ d) (hf : f_State_begin_l29 i0 i1 v2 h = some o) (K0 : ∀ (h1 : xH), o = h1 → R = none ∧ H' = h1) : xEv g l d 45 29 [(0, xr 6 (some i0)), (1, xr 8 (some i1)), (2, xi v2)] [] h R H' := by
  obtain ⟨n, hn⟩ := whl_iff.mp hf
  clear hf
  induction n generalizing v2 h with
  | zero => cases hn
  | succ n ih =>
    obtain ⟨o2, hs, hn⟩ := lk_b (show (f_State_begin_s29 i0 i1 v2 h).bind (fun o => Sum.elim (itn _ n) some o) = some o from hn)
    exact f_State_begin_s29_ok hD hs (fun u0 u1 e => ih (by rw [e] at hn; exact hn)) (fun u0 e => K0 u0 (by rw [e] at hn; exact (Option.some.inj hn).symm))
noncomputable def f_State_begin_e (i0 : Nat) (i1 : Nat) (h : xH) : Option xH :=
  xlet (xsI h 6 0 i0 (0 : Int32)) fun h1 =>
  xlet (xsI h1 6 1 i0 (0 : Int32)) fun h2 =>
  xlet (xsI h2 6 2 i0 (((1 : Int32) <<< ((h2.1 8 3 i1) &&& 31)) - (1 : Int32))) fun h3 =>
  xlet (xsI h3 6 3 i0 (0 : Int32)) fun h4 =>
  f_State_begin_l29 i0 i1 (0 : Int32) h4
set_option maxHeartbeats 4000000 in
set_option maxRecDepth 100000 in
theorem f_State_begin_e_ok {g : xG} {l : Launch} {d : Nat} {i0 : Nat} {i1 : Nat} {h : xH} {o : xH} {R : Option xV} {H' : xH} (hD : 1 ≤ d) (hf : f_State_begin_e i0 i1 h = some o) (K0 : ∀ (h1 : xH), o = h1 → R = none ∧ H' = h1) : xEv g l d 45 0 [(0, xr 6 (some i0)), (1, xr 8 (some i1))] [] h R H' := by
  unfold f_State_begin_e at hf
  refine xs_aload_n d45_0 rfl ?_
  refine xs_iconst (v := 0) d45_1 (by decide) ?_
  obtain ⟨h1, eh1, hf⟩ := lk_let hf
  refine xe_puti d45_2 ky45 fl67 fk6_0 ft6_0 eh1 ?_
  refine xs_aload_n d45_5 rfl ?_
  refine xs_iconst (v := 0) d45_6 (by decide) ?_
  obtain ⟨h2, eh2, hf⟩ := lk_let hf
  refine xe_puti d45_7 ky45 fl71 fk6_1 ft6_1 eh2 ?_
  refine xs_aload_n d45_10 rfl ?_
  refine xs_iconst (v := 1) d45_11 (by decide) ?_
  refine xs_aload_n d45_12 rfl ?_
  refine xe_geti d45_13 ky45 fl29 fk8_3 ?_
  refine xs_ishl d45_16 ?_
  refine xs_iconst (v := 1) d45_17 (by decide) ?_
  refine xs_isub d45_18 ?_
  obtain ⟨h3, eh3, hf⟩ := lk_let hf
  refine xe_puti d45_19 ky45 fl74 fk6_2 ft6_2 eh3 ?_
  refine xs_aload_n d45_22 rfl ?_
  refine xs_iconst (v := 0) d45_23 (by decide) ?_
  obtain ⟨h4, eh4, hf⟩ := lk_let hf
  refine xe_puti d45_24 ky45 fl79 fk6_3 ft6_3 eh4 ?_
  refine xs_iconst (v := 0) d45_27 (by decide) ?_
  refine xe_istore_n (v := (0 : Int32)) (ls2 := [(0, xr 6 (some i0)), (1, xr 8 (some i1)), (2, xi (0 : Int32))]) d45_28 mx45 (by decide) rfl rfl ?_
  exact f_State_begin_l29_ok hD hf K0
noncomputable def f_State_begin (i0 : Nat) (i1 : Nat) (h : xH) : Option xH := f_State_begin_e i0 i1 h
theorem f_State_begin_ok {g : xG} {l : Launch} {d : Nat} {i0 : Nat} {i1 : Nat} {h : xH} {h1 : xH} (hD : 1 ≤ d) (hf : f_State_begin i0 i1 h = some h1) : xC g l d 45 [xr 6 (some i0), xr 8 (some i1)] h none h1 :=
  xC_of (by decide) (Nat.le_of_ble_eq_true rfl) (f_State_begin_e_ok hD hf (fun _ e => ⟨rfl, e⟩))
theorem d48_0 : decode (xcode 48) 0 = .ok (.iload_n 1, 1) := by decide +kernel
theorem d48_1 : decode (xcode 48) 1 = .ok (.ifCond .lt 24, 3) := by decide +kernel
theorem d48_4 : decode (xcode 48) 4 = .ok (.iload_n 1, 1) := by decide +kernel
theorem d48_5 : decode (xcode 48) 5 = .ok (.bipush 8, 2) := by decide +kernel
theorem d48_7 : decode (xcode 48) 7 = .ok (.if_icmp .ge 18, 3) := by decide +kernel
theorem d48_10 : decode (xcode 48) 10 = .ok (.aload_n 0, 1) := by decide +kernel
theorem d48_11 : decode (xcode 48) 11 = .ok (.getfield 39, 3) := by decide +kernel
theorem d48_14 : decode (xcode 48) 14 = .ok (.iload_n 1, 1) := by decide +kernel
theorem d48_15 : decode (xcode 48) 15 = .ok (.ishr, 1) := by decide +kernel
theorem d48_16 : decode (xcode 48) 16 = .ok (.iconst 1, 1) := by decide +kernel
theorem d48_17 : decode (xcode 48) 17 = .ok (.iand, 1) := by decide +kernel
theorem d48_18 : decode (xcode 48) 18 = .ok (.ifCond .eq 7, 3) := by decide +kernel
theorem d48_21 : decode (xcode 48) 21 = .ok (.iconst 1, 1) := by decide +kernel
theorem d48_22 : decode (xcode 48) 22 = .ok (.goto 4, 3) := by decide +kernel
theorem d48_25 : decode (xcode 48) 25 = .ok (.iconst 0, 1) := by decide +kernel
theorem d48_26 : decode (xcode 48) 26 = .ok (.ireturn, 1) := by decide +kernel
noncomputable def f_State_isLetBe_e (i0 : Nat) (v1 : Int32) (h : xH) : Option Int32 :=
  if v1 < (0 : Int32) then (
  some ((0 : Int32))) else (
  if (8 : Int32) ≤ v1 then (
  some ((0 : Int32))) else (
  if (((h.1 6 3 i0) >>> (v1 &&& 31)) &&& (1 : Int32)) = (0 : Int32) then (
  some ((0 : Int32))) else (
  some ((1 : Int32)))))
set_option maxHeartbeats 4000000 in
set_option maxRecDepth 100000 in
theorem f_State_isLetBe_e_ok {g : xG} {l : Launch} {d : Nat} {i0 : Nat} {v1 : Int32} {h : xH} {o : Int32} {R : Option xV} (hD : 0 ≤ d) (hf : f_State_isLetBe_e i0 v1 h = some o) (K0 : ∀ (a : Int32), o = a → R = some (xi a)) : xEv g l d 48 0 [(0, xr 6 (some i0)), (1, xi v1)] [] h R h := by
  unfold f_State_isLetBe_e at hf
  refine xs_iload_n d48_0 rfl ?_
  rcases lk_if hf with ⟨hc1, hf⟩ | ⟨hc1, hf⟩
  · refine xs_if_lt (tgt := 25) d48_1 (by decide) (fun _ => ?_) (fun hn => absurd hc1 hn)
    refine xs_iconst (v := 0) d48_25 (by decide) ?_
    obtain eR := K0 _ (Option.some.inj hf).symm
    subst eR
    exact xe_zret d48_26 (Or.inl rfl) rt48
  · refine xs_if_lt (tgt := 25) d48_1 (by decide) (fun hp => absurd hp hc1) (fun _ => ?_)
    refine xs_iload_n d48_4 rfl ?_
    refine xs_bipush (v := 8) d48_5 (by decide) ?_
    rcases lk_if hf with ⟨hc2, hf⟩ | ⟨hc2, hf⟩
    · refine xs_icmp_ge (tgt := 25) d48_7 (by decide) (fun _ => ?_) (fun hn => absurd hc2 hn)
      refine xs_iconst (v := 0) d48_25 (by decide) ?_
      obtain eR := K0 _ (Option.some.inj hf).symm
      subst eR
      exact xe_zret d48_26 (Or.inl rfl) rt48
    · refine xs_icmp_ge (tgt := 25) d48_7 (by decide) (fun hp => absurd hp hc2) (fun _ => ?_)
      refine xs_aload_n d48_10 rfl ?_
      refine xe_geti d48_11 ky48 fl79 fk6_3 ?_
      refine xs_iload_n d48_14 rfl ?_
      refine xs_ishr d48_15 ?_
      refine xs_iconst (v := 1) d48_16 (by decide) ?_
      refine xs_iand d48_17 ?_
      rcases lk_if hf with ⟨hc3, hf⟩ | ⟨hc3, hf⟩
      · refine xs_if_eq (tgt := 25) d48_18 (by decide) (fun _ => ?_) (fun hn => absurd hc3 hn)
        refine xs_iconst (v := 0) d48_25 (by decide) ?_
        obtain eR := K0 _ (Option.some.inj hf).symm
        subst eR
        exact xe_zret d48_26 (Or.inl rfl) rt48
      · refine xs_if_eq (tgt := 25) d48_18 (by decide) (fun hp => absurd hp hc3) (fun _ => ?_)
        refine xs_iconst (v := 1) d48_21 (by decide) ?_
        refine xs_goto (tgt := 26) d48_22 (by decide) ?_
        obtain eR := K0 _ (Option.some.inj hf).symm
        subst eR
        exact xe_zret d48_26 (Or.inr rfl) rt48
noncomputable def f_State_isLetBe (i0 : Nat) (v1 : Int32) (h : xH) : Option Int32 := f_State_isLetBe_e i0 v1 h
theorem f_State_isLetBe_ok {g : xG} {l : Launch} {d : Nat} {i0 : Nat} {v1 : Int32} {h : xH} {r : Int32} (hD : 0 ≤ d) (hf : f_State_isLetBe i0 v1 h = some r) : xC g l d 48 [xr 6 (some i0), xi v1] h (some (xi r)) h :=
  xC_of (by decide) (Nat.le_of_ble_eq_true rfl) (f_State_isLetBe_e_ok hD hf (fun _ e => by rw [e]))
theorem d49_0 : decode (xcode 49) 0 = .ok (.aload_n 0, 1) := by decide +kernel
theorem d49_1 : decode (xcode 49) 1 = .ok (.iload_n 1, 1) := by decide +kernel
theorem d49_2 : decode (xcode 49) 2 = .ok (.invokevirtual 51, 3) := by decide +kernel
theorem d49_5 : decode (xcode 49) 5 = .ok (.ifCond .eq 21, 3) := by decide +kernel
theorem d49_8 : decode (xcode 49) 8 = .ok (.aload_n 0, 1) := by decide +kernel
theorem d49_9 : decode (xcode 49) 9 = .ok (.getfield 15, 3) := by decide +kernel
theorem d49_12 : decode (xcode 49) 12 = .ok (.iload_n 1, 1) := by decide +kernel
theorem d49_13 : decode (xcode 49) 13 = .ok (.iaload, 1) := by decide +kernel
theorem d49_14 : decode (xcode 49) 14 = .ok (.aload_n 0, 1) := by decide +kernel
theorem d49_15 : decode (xcode 49) 15 = .ok (.getfield 36, 3) := by decide +kernel
theorem d49_18 : decode (xcode 49) 18 = .ok (.iand, 1) := by decide +kernel
theorem d49_19 : decode (xcode 49) 19 = .ok (.ifCond .ne 7, 3) := by decide +kernel
theorem d49_22 : decode (xcode 49) 22 = .ok (.iconst 1, 1) := by decide +kernel
theorem d49_23 : decode (xcode 49) 23 = .ok (.goto 4, 3) := by decide +kernel
theorem d49_26 : decode (xcode 49) 26 = .ok (.iconst 0, 1) := by decide +kernel
theorem d49_27 : decode (xcode 49) 27 = .ok (.ireturn, 1) := by decide +kernel
noncomputable def f_State_isLoose_e (i0 : Nat) (v1 : Int32) (h : xH) : Option Int32 :=
  (f_State_isIn i0 v1 h).bind fun r1 =>
  if r1 = (0 : Int32) then (
  some ((0 : Int32))) else (
  if xib v1 8 then (
  if ((h.2.2.2.1 30 i0 (v1).toNatClampNeg) &&& (h.1 6 2 i0)) = (0 : Int32) then (
  some ((1 : Int32))) else (
  some ((0 : Int32)))) else none)
set_option maxHeartbeats 4000000 in
set_option maxRecDepth 100000 in
theorem f_State_isLoose_e_ok {g : xG} {l : Launch} {d : Nat} {i0 : Nat} {v1 : Int32} {h : xH} {o : Int32} {R : Option xV} (hD : 1 ≤ d) (hf : f_State_isLoose_e i0 v1 h = some o) (K0 : ∀ (a : Int32), o = a → R = some (xi a)) : xEv g l d 49 0 [(0, xr 6 (some i0)), (1, xi v1)] [] h R h := by
  unfold f_State_isLoose_e at hf
  refine xs_aload_n d49_0 rfl ?_
  refine xs_iload_n d49_1 rfl ?_
  obtain ⟨r1, hc2, hf⟩ := lk_b hf
  refine xe_callv1 (as := [xi v1]) (st := []) (h2 := h) (d2 := d - 1) d49_2 ky49 ml60 st47 (by decide) cn47 rfl na47 (Nat.le_of_ble_eq_true rfl) (by omega) (f_State_isIn_ok (by omega) hc2) ?_
  rcases lk_if hf with ⟨hc3, hf⟩ | ⟨hc3, hf⟩
  · refine xs_if_eq (tgt := 26) d49_5 (by decide) (fun _ => ?_) (fun hn => absurd hc3 hn)
    refine xs_iconst (v := 0) d49_26 (by decide) ?_
    obtain eR := K0 _ (Option.some.inj hf).symm
    subst eR
    exact xe_zret d49_27 (Or.inl rfl) rt49
  · refine xs_if_eq (tgt := 26) d49_5 (by decide) (fun hp => absurd hp hc3) (fun _ => ?_)
    refine xs_aload_n d49_8 rfl ?_
    refine xe_getc (j := i0) d49_9 ky49 fl84 fk6_5 (by omega) ?_
    refine xs_iload_n d49_12 rfl ?_
    obtain ⟨hin4, hf⟩ := lk_g hf
    refine xe_iald d49_13 (by decide) ak30 hin4 ?_
    refine xs_aload_n d49_14 rfl ?_
    refine xe_geti d49_15 ky49 fl74 fk6_2 ?_
    refine xs_iand d49_18 ?_
    rcases lk_if hf with ⟨hc5, hf⟩ | ⟨hc5, hf⟩
    · refine xs_if_ne (tgt := 26) d49_19 (by decide) (fun _ => ?_) (fun hn => absurd hc5 hn)
      refine xs_iconst (v := 1) d49_22 (by decide) ?_
      refine xs_goto (tgt := 27) d49_23 (by decide) ?_
      obtain eR := K0 _ (Option.some.inj hf).symm
      subst eR
      exact xe_zret d49_27 (Or.inr rfl) rt49
    · refine xs_if_ne (tgt := 26) d49_19 (by decide) (fun hp => absurd hp hc5) (fun _ => ?_)
      refine xs_iconst (v := 0) d49_26 (by decide) ?_
      obtain eR := K0 _ (Option.some.inj hf).symm
      subst eR
      exact xe_zret d49_27 (Or.inl rfl) rt49
noncomputable def f_State_isLoose (i0 : Nat) (v1 : Int32) (h : xH) : Option Int32 := f_State_isLoose_e i0 v1 h
theorem f_State_isLoose_ok {g : xG} {l : Launch} {d : Nat} {i0 : Nat} {v1 : Int32} {h : xH} {r : Int32} (hD : 1 ≤ d) (hf : f_State_isLoose i0 v1 h = some r) : xC g l d 49 [xr 6 (some i0), xi v1] h (some (xi r)) h :=
  xC_of (by decide) (Nat.le_of_ble_eq_true rfl) (f_State_isLoose_e_ok hD hf (fun _ e => by rw [e]))
theorem d50_0 : decode (xcode 50) 0 = .ok (.aload_n 0, 1) := by decide +kernel
theorem d50_1 : decode (xcode 50) 1 = .ok (.iload_n 1, 1) := by decide +kernel
theorem d50_2 : decode (xcode 50) 2 = .ok (.invokevirtual 51, 3) := by decide +kernel
theorem d50_5 : decode (xcode 50) 5 = .ok (.ifCond .eq 7, 3) := by decide +kernel
theorem d50_8 : decode (xcode 50) 8 = .ok (.iconst 0, 1) := by decide +kernel
theorem d50_9 : decode (xcode 50) 9 = .ok (.goto 16, 3) := by decide +kernel
theorem d50_12 : decode (xcode 50) 12 = .ok (.aload_n 0, 1) := by decide +kernel
theorem d50_13 : decode (xcode 50) 13 = .ok (.iload_n 1, 1) := by decide +kernel
theorem d50_14 : decode (xcode 50) 14 = .ok (.invokevirtual 55, 3) := by decide +kernel
theorem d50_17 : decode (xcode 50) 17 = .ok (.ifCond .eq 7, 3) := by decide +kernel
theorem d50_20 : decode (xcode 50) 20 = .ok (.iconst 1, 1) := by decide +kernel
theorem d50_21 : decode (xcode 50) 21 = .ok (.goto 4, 3) := by decide +kernel
theorem d50_24 : decode (xcode 50) 24 = .ok (.iconst 2, 1) := by decide +kernel
theorem d50_25 : decode (xcode 50) 25 = .ok (.ireturn, 1) := by decide +kernel
noncomputable def f_State_standing_e (i0 : Nat) (v1 : Int32) (h : xH) : Option Int32 :=
  (f_State_isIn i0 v1 h).bind fun r1 =>
  if r1 = (0 : Int32) then (
  (f_State_isLetBe i0 v1 h).bind fun r4 =>
  if r4 = (0 : Int32) then (
  some ((2 : Int32))) else (
  some ((1 : Int32)))) else (
  some ((0 : Int32)))
set_option maxHeartbeats 4000000 in
set_option maxRecDepth 100000 in
theorem f_State_standing_e_ok {g : xG} {l : Launch} {d : Nat} {i0 : Nat} {v1 : Int32} {h : xH} {o : Int32} {R : Option xV} (hD : 1 ≤ d) (hf : f_State_standing_e i0 v1 h = some o) (K0 : ∀ (a : Int32), o = a → R = some (xi a)) : xEv g l d 50 0 [(0, xr 6 (some i0)), (1, xi v1)] [] h R h := by
  unfold f_State_standing_e at hf
  refine xs_aload_n d50_0 rfl ?_
  refine xs_iload_n d50_1 rfl ?_
  obtain ⟨r1, hc2, hf⟩ := lk_b hf
  refine xe_callv1 (as := [xi v1]) (st := []) (h2 := h) (d2 := d - 1) d50_2 ky50 ml60 st47 (by decide) cn47 rfl na47 (Nat.le_of_ble_eq_true rfl) (by omega) (f_State_isIn_ok (by omega) hc2) ?_
  rcases lk_if hf with ⟨hc3, hf⟩ | ⟨hc3, hf⟩
  · refine xs_if_eq (tgt := 12) d50_5 (by decide) (fun _ => ?_) (fun hn => absurd hc3 hn)
    refine xs_aload_n d50_12 rfl ?_
    refine xs_iload_n d50_13 rfl ?_
    obtain ⟨r4, hc5, hf⟩ := lk_b hf
    refine xe_callv1 (as := [xi v1]) (st := []) (h2 := h) (d2 := d - 1) d50_14 ky50 ml61 st48 (by decide) cn48 rfl na48 (Nat.le_of_ble_eq_true rfl) (by omega) (f_State_isLetBe_ok (by omega) hc5) ?_
    rcases lk_if hf with ⟨hc6, hf⟩ | ⟨hc6, hf⟩
    · refine xs_if_eq (tgt := 24) d50_17 (by decide) (fun _ => ?_) (fun hn => absurd hc6 hn)
      refine xs_iconst (v := 2) d50_24 (by decide) ?_
      obtain eR := K0 _ (Option.some.inj hf).symm
      subst eR
      exact xs_iret d50_25 rt50
    · refine xs_if_eq (tgt := 24) d50_17 (by decide) (fun hp => absurd hp hc6) (fun _ => ?_)
      refine xs_iconst (v := 1) d50_20 (by decide) ?_
      refine xs_goto (tgt := 25) d50_21 (by decide) ?_
      obtain eR := K0 _ (Option.some.inj hf).symm
      subst eR
      exact xs_iret d50_25 rt50
  · refine xs_if_eq (tgt := 12) d50_5 (by decide) (fun hp => absurd hp hc3) (fun _ => ?_)
    refine xs_iconst (v := 0) d50_8 (by decide) ?_
    refine xs_goto (tgt := 25) d50_9 (by decide) ?_
    obtain eR := K0 _ (Option.some.inj hf).symm
    subst eR
    exact xs_iret d50_25 rt50
noncomputable def f_State_standing (i0 : Nat) (v1 : Int32) (h : xH) : Option Int32 := f_State_standing_e i0 v1 h
theorem f_State_standing_ok {g : xG} {l : Launch} {d : Nat} {i0 : Nat} {v1 : Int32} {h : xH} {r : Int32} (hD : 1 ≤ d) (hf : f_State_standing i0 v1 h = some r) : xC g l d 50 [xr 6 (some i0), xi v1] h (some (xi r)) h :=
  xC_of (by decide) (Nat.le_of_ble_eq_true rfl) (f_State_standing_e_ok hD hf (fun _ e => by rw [e]))
theorem d51_0 : decode (xcode 51) 0 = .ok (.iconst 0, 1) := by decide +kernel
theorem d51_1 : decode (xcode 51) 1 = .ok (.istore_n 1, 1) := by decide +kernel
theorem d51_2 : decode (xcode 51) 2 = .ok (.iconst 0, 1) := by decide +kernel
theorem d51_3 : decode (xcode 51) 3 = .ok (.istore_n 2, 1) := by decide +kernel
theorem d51_4 : decode (xcode 51) 4 = .ok (.iload_n 2, 1) := by decide +kernel
theorem d51_5 : decode (xcode 51) 5 = .ok (.bipush 8, 2) := by decide +kernel
theorem d51_7 : decode (xcode 51) 7 = .ok (.if_icmp .ge 23, 3) := by decide +kernel
theorem d51_10 : decode (xcode 51) 10 = .ok (.aload_n 0, 1) := by decide +kernel
theorem d51_11 : decode (xcode 51) 11 = .ok (.iload_n 2, 1) := by decide +kernel
theorem d51_12 : decode (xcode 51) 12 = .ok (.invokevirtual 58, 3) := by decide +kernel
theorem d51_15 : decode (xcode 51) 15 = .ok (.ifCond .eq 9, 3) := by decide +kernel
theorem d51_18 : decode (xcode 51) 18 = .ok (.iload_n 1, 1) := by decide +kernel
theorem d51_19 : decode (xcode 51) 19 = .ok (.iconst 1, 1) := by decide +kernel
theorem d51_20 : decode (xcode 51) 20 = .ok (.iload_n 2, 1) := by decide +kernel
theorem d51_21 : decode (xcode 51) 21 = .ok (.ishl, 1) := by decide +kernel
theorem d51_22 : decode (xcode 51) 22 = .ok (.ior, 1) := by decide +kernel
theorem d51_23 : decode (xcode 51) 23 = .ok (.istore_n 1, 1) := by decide +kernel
theorem d51_24 : decode (xcode 51) 24 = .ok (.iinc 2 1, 3) := by decide +kernel
theorem d51_27 : decode (xcode 51) 27 = .ok (.goto (-23), 3) := by decide +kernel
theorem d51_30 : decode (xcode 51) 30 = .ok (.iload_n 1, 1) := by decide +kernel
theorem d51_31 : decode (xcode 51) 31 = .ok (.ireturn, 1) := by decide +kernel
noncomputable def f_State_looseBits_b24 (i0 : Nat) (v1 : Int32) (v2 : Int32) (h : xH) : Option ((Int32 × Int32) ⊕ Int32) :=
  xlet (v2 + (1 : Int32)) fun v2_5 =>
  some (Sum.inl (v1, v2_5))
set_option maxHeartbeats 4000000 in
set_option maxRecDepth 100000 in
theorem f_State_looseBits_b24_ok {g : xG} {l : Launch} {d : Nat} {i0 : Nat} {v1 : Int32} {v2 : Int32} {h : xH} {o : ((Int32 × Int32) ⊕ Int32)} {R : Option xV} (hD : 2 ≤ d) (hf : f_State_looseBits_b24 i0 v1 v2 h = some o) (K1 : ∀ (w1 : Int32) (w2 : Int32), o = Sum.inl (w1, w2) → xEv g l d 51 4 [(0, xr 6 (some i0)), (1, xi w1), (2, xi w2)] [] h R h) (K0 : ∀ (a : Int32), o = Sum.inr (a) → R = some (xi a)) : xEv g l d 51 24 [(0, xr 6 (some i0)), (1, xi v1), (2, xi v2)] [] h R h := by
  unfold f_State_looseBits_b24 at hf
  obtain ⟨v2_5, ev2_5, hf⟩ := lk_let hf
  refine xe_iinc (v := v2_5) (b := 1) (ls2 := [(0, xr 6 (some i0)), (1, xi v1), (2, xi v2_5)]) d51_24 mx51 (by decide) rfl (by decide) ev2_5 rfl ?_
  refine xs_goto (tgt := 4) d51_27 (by decide) ?_
  exact K1 _ _ (Option.some.inj hf).symm
noncomputable def f_State_looseBits_s4 (i0 : Nat) (v1 : Int32) (v2 : Int32) (h : xH) : Option ((Int32 × Int32) ⊕ Int32) :=
  if (8 : Int32) ≤ v2 then (
  some (Sum.inr (v1))) else (
  (f_State_isLoose i0 v2 h).bind fun r2 =>
  if r2 = (0 : Int32) then (
  f_State_looseBits_b24 i0 v1 v2 h) else (
  xlet (v1 ||| ((1 : Int32) <<< (v2 &&& 31))) fun v1_6 =>
  f_State_looseBits_b24 i0 v1_6 v2 h))
set_option maxHeartbeats 4000000 in
set_option maxRecDepth 100000 in
theorem f_State_looseBits_s4_ok {g : xG} {l : Launch} {d : Nat} {i0 : Nat} {v1 : Int32} {v2 : Int32} {h : xH} {o : ((Int32 × Int32) ⊕ Int32)} {R : Option xV} (hD : 2 ≤ d) (hf : f_State_looseBits_s4 i0 v1 v2 h = some o) (K1 : ∀ (w1 : Int32) (w2 : Int32), o = Sum.inl (w1, w2) → xEv g l d 51 4 [(0, xr 6 (some i0)), (1, xi w1), (2, xi w2)] [] h R h) (K0 : ∀ (a : Int32), o = Sum.inr (a) → R = some (xi a)) : xEv g l d 51 4 [(0, xr 6 (some i0)), (1, xi v1), (2, xi v2)] [] h R h := by
  unfold f_State_looseBits_s4 at hf
  refine xs_iload_n d51_4 rfl ?_
  refine xs_bipush (v := 8) d51_5 (by decide) ?_
  rcases lk_if hf with ⟨hc1, hf⟩ | ⟨hc1, hf⟩
  · refine xs_icmp_ge (tgt := 30) d51_7 (by decide) (fun _ => ?_) (fun hn => absurd hc1 hn)
    refine xs_iload_n d51_30 rfl ?_
    obtain eR := K0 _ (Option.some.inj hf).symm
    subst eR
    exact xs_iret d51_31 rt51
  · refine xs_icmp_ge (tgt := 30) d51_7 (by decide) (fun hp => absurd hp hc1) (fun _ => ?_)
    refine xs_aload_n d51_10 rfl ?_
    refine xs_iload_n d51_11 rfl ?_
    obtain ⟨r2, hc3, hf⟩ := lk_b hf
    refine xe_callv1 (as := [xi v2]) (st := []) (h2 := h) (d2 := d - 1) d51_12 ky51 ml74 st49 (by decide) cn49 rfl na49 (Nat.le_of_ble_eq_true rfl) (by omega) (f_State_isLoose_ok (by omega) hc3) ?_
    rcases lk_if hf with ⟨hc4, hf⟩ | ⟨hc4, hf⟩
    · refine xs_if_eq (tgt := 24) d51_15 (by decide) (fun _ => ?_) (fun hn => absurd hc4 hn)
      exact f_State_looseBits_b24_ok hD hf K1 K0
    · refine xs_if_eq (tgt := 24) d51_15 (by decide) (fun hp => absurd hp hc4) (fun _ => ?_)
      refine xs_iload_n d51_18 rfl ?_
      refine xs_iconst (v := 1) d51_19 (by decide) ?_
      refine xs_iload_n d51_20 rfl ?_
      refine xs_ishl d51_21 ?_
      refine xs_ior d51_22 ?_
      obtain ⟨v1_6, ev1_6, hf⟩ := lk_let hf
      refine xe_istore_n (v := v1_6) (ls2 := [(0, xr 6 (some i0)), (1, xi v1_6), (2, xi v2)]) d51_23 mx51 (by decide) ev1_6 rfl ?_
      exact f_State_looseBits_b24_ok hD hf K1 K0
noncomputable def f_State_looseBits_l4 (i0 : Nat) (v1 : Int32) (v2 : Int32) (h : xH) : Option Int32 :=
  whl (fun s => f_State_looseBits_s4 i0 s.1 s.2 h) (v1, v2)
theorem f_State_looseBits_l4_ok {g : xG} {l : Launch} {d : Nat} {i0 : Nat} {v1 : Int32} {v2 : Int32} {h : xH} {o : Int32} {R : Option xV} (hD : 2 ≤ d) (hf : f_State_looseBits_l4 i0 v1 v2 h = some o) (K0 : ∀ (a : Int32), o = a → R = some (xi a)) : xEv g l d 51 4 [(0, xr 6 (some i0)), (1, xi v1), (2, xi v2)] [] h R h := by
  obtain ⟨n, hn⟩ := whl_iff.mp hf
  clear hf
  induction n generalizing v1 v2 with
  | zero => cases hn
  | succ n ih =>
    obtain ⟨o2, hs, hn⟩ := lk_b (show (f_State_looseBits_s4 i0 v1 v2 h).bind (fun o => Sum.elim (itn _ n) some o) = some o from hn)
    exact f_State_looseBits_s4_ok hD hs (fun u0 u1 e => ih (by rw [e] at hn; exact hn)) (fun u0 e => K0 u0 (by rw [e] at hn; exact (Option.some.inj hn).symm))
noncomputable def f_State_looseBits_e (i0 : Nat) (h : xH) : Option Int32 :=
  f_State_looseBits_l4 i0 (0 : Int32) (0 : Int32) h
set_option maxHeartbeats 4000000 in
set_option maxRecDepth 100000 in
theorem f_State_looseBits_e_ok {g : xG} {l : Launch} {d : Nat} {i0 : Nat} {h : xH} {o : Int32} {R : Option xV} (hD : 2 ≤ d) (hf : f_State_looseBits_e i0 h = some o) (K0 : ∀ (a : Int32), o = a → R = some (xi a)) : xEv g l d 51 0 [(0, xr 6 (some i0))] [] h R h := by
  unfold f_State_looseBits_e at hf
  refine xs_iconst (v := 0) d51_0 (by decide) ?_
  refine xe_istore_n (v := (0 : Int32)) (ls2 := [(0, xr 6 (some i0)), (1, xi (0 : Int32))]) d51_1 mx51 (by decide) rfl rfl ?_
  refine xs_iconst (v := 0) d51_2 (by decide) ?_
  refine xe_istore_n (v := (0 : Int32)) (ls2 := [(0, xr 6 (some i0)), (1, xi (0 : Int32)), (2, xi (0 : Int32))]) d51_3 mx51 (by decide) rfl rfl ?_
  exact f_State_looseBits_l4_ok hD hf K0
noncomputable def f_State_looseBits (i0 : Nat) (h : xH) : Option Int32 := f_State_looseBits_e i0 h
theorem f_State_looseBits_ok {g : xG} {l : Launch} {d : Nat} {i0 : Nat} {h : xH} {r : Int32} (hD : 2 ≤ d) (hf : f_State_looseBits i0 h = some r) : xC g l d 51 [xr 6 (some i0)] h (some (xi r)) h :=
  xC_of (by decide) (Nat.le_of_ble_eq_true rfl) (f_State_looseBits_e_ok hD hf (fun _ e => by rw [e]))
theorem d52_0 : decode (xcode 52) 0 = .ok (.iload_n 1, 1) := by decide +kernel
theorem d52_1 : decode (xcode 52) 1 = .ok (.istore_n 2, 1) := by decide +kernel
theorem d52_2 : decode (xcode 52) 2 = .ok (.iconst 0, 1) := by decide +kernel
theorem d52_3 : decode (xcode 52) 3 = .ok (.istore_n 3, 1) := by decide +kernel
theorem d52_4 : decode (xcode 52) 4 = .ok (.iload_n 3, 1) := by decide +kernel
theorem d52_5 : decode (xcode 52) 5 = .ok (.bipush 8, 2) := by decide +kernel
theorem d52_7 : decode (xcode 52) 7 = .ok (.if_icmp .ge 29, 3) := by decide +kernel
theorem d52_10 : decode (xcode 52) 10 = .ok (.aload_n 0, 1) := by decide +kernel
theorem d52_11 : decode (xcode 52) 11 = .ok (.getfield 36, 3) := by decide +kernel
theorem d52_14 : decode (xcode 52) 14 = .ok (.iload_n 3, 1) := by decide +kernel
theorem d52_15 : decode (xcode 52) 15 = .ok (.ishr, 1) := by decide +kernel
theorem d52_16 : decode (xcode 52) 16 = .ok (.iconst 1, 1) := by decide +kernel
theorem d52_17 : decode (xcode 52) 17 = .ok (.iand, 1) := by decide +kernel
theorem d52_18 : decode (xcode 52) 18 = .ok (.ifCond .eq 12, 3) := by decide +kernel
theorem d52_21 : decode (xcode 52) 21 = .ok (.iload_n 2, 1) := by decide +kernel
theorem d52_22 : decode (xcode 52) 22 = .ok (.aload_n 0, 1) := by decide +kernel
theorem d52_23 : decode (xcode 52) 23 = .ok (.getfield 18, 3) := by decide +kernel
theorem d52_26 : decode (xcode 52) 26 = .ok (.iload_n 3, 1) := by decide +kernel
theorem d52_27 : decode (xcode 52) 27 = .ok (.iaload, 1) := by decide +kernel
theorem d52_28 : decode (xcode 52) 28 = .ok (.iadd, 1) := by decide +kernel
theorem d52_29 : decode (xcode 52) 29 = .ok (.istore_n 2, 1) := by decide +kernel
theorem d52_30 : decode (xcode 52) 30 = .ok (.iinc 3 1, 3) := by decide +kernel
theorem d52_33 : decode (xcode 52) 33 = .ok (.goto (-29), 3) := by decide +kernel
theorem d52_36 : decode (xcode 52) 36 = .ok (.iload_n 2, 1) := by decide +kernel
theorem d52_37 : decode (xcode 52) 37 = .ok (.ireturn, 1) := by decide +kernel
noncomputable def f_State_load_b30 (i0 : Nat) (v2 : Int32) (v3 : Int32) (h : xH) : Option ((Int32 × Int32) ⊕ Int32) :=
  xlet (v3 + (1 : Int32)) fun v3_3 =>
  some (Sum.inl (v2, v3_3))
set_option maxHeartbeats 4000000 in
set_option maxRecDepth 100000 in
theorem f_State_load_b30_ok {g : xG} {l : Launch} {d : Nat} {i0 : Nat} {v2 : Int32} {v3 : Int32} {h : xH} {o : ((Int32 × Int32) ⊕ Int32)} {R : Option xV} (hD : 0 ≤ d) (hf : f_State_load_b30 i0 v2 v3 h = some o) (K1 : ∀ (w2 : Int32) (w3 : Int32), o = Sum.inl (w2, w3) → xEv g l d 52 4 [(0, xr 6 (some i0)), (2, xi w2), (3, xi w3)] [] h R h) (K0 : ∀ (a : Int32), o = Sum.inr (a) → R = some (xi a)) : xEv g l d 52 30 [(0, xr 6 (some i0)), (2, xi v2), (3, xi v3)] [] h R h := by
  unfold f_State_load_b30 at hf
  obtain ⟨v3_3, ev3_3, hf⟩ := lk_let hf
  refine xe_iinc (v := v3_3) (b := 1) (ls2 := [(0, xr 6 (some i0)), (2, xi v2), (3, xi v3_3)]) d52_30 mx52 (by decide) rfl (by decide) ev3_3 rfl ?_
  refine xs_goto (tgt := 4) d52_33 (by decide) ?_
  exact K1 _ _ (Option.some.inj hf).symm
noncomputable def f_State_load_s4 (i0 : Nat) (v2 : Int32) (v3 : Int32) (h : xH) : Option ((Int32 × Int32) ⊕ Int32) :=
  if (8 : Int32) ≤ v3 then (
  some (Sum.inr (v2))) else (
  if (((h.1 6 2 i0) >>> (v3 &&& 31)) &&& (1 : Int32)) = (0 : Int32) then (
  f_State_load_b30 i0 v2 v3 h) else (
  if xib v3 8 then (
  xlet (v2 + (h.2.2.2.1 31 i0 (v3).toNatClampNeg)) fun v2_5 =>
  f_State_load_b30 i0 v2_5 v3 h) else none))
set_option maxHeartbeats 4000000 in
set_option maxRecDepth 100000 in
theorem f_State_load_s4_ok {g : xG} {l : Launch} {d : Nat} {i0 : Nat} {v2 : Int32} {v3 : Int32} {h : xH} {o : ((Int32 × Int32) ⊕ Int32)} {R : Option xV} (hD : 0 ≤ d) (hf : f_State_load_s4 i0 v2 v3 h = some o) (K1 : ∀ (w2 : Int32) (w3 : Int32), o = Sum.inl (w2, w3) → xEv g l d 52 4 [(0, xr 6 (some i0)), (2, xi w2), (3, xi w3)] [] h R h) (K0 : ∀ (a : Int32), o = Sum.inr (a) → R = some (xi a)) : xEv g l d 52 4 [(0, xr 6 (some i0)), (2, xi v2), (3, xi v3)] [] h R h := by
  unfold f_State_load_s4 at hf
  refine xs_iload_n d52_4 rfl ?_
  refine xs_bipush (v := 8) d52_5 (by decide) ?_
  rcases lk_if hf with ⟨hc1, hf⟩ | ⟨hc1, hf⟩
  · refine xs_icmp_ge (tgt := 36) d52_7 (by decide) (fun _ => ?_) (fun hn => absurd hc1 hn)
    refine xs_iload_n d52_36 rfl ?_
    obtain eR := K0 _ (Option.some.inj hf).symm
    subst eR
    exact xs_iret d52_37 rt52
  · refine xs_icmp_ge (tgt := 36) d52_7 (by decide) (fun hp => absurd hp hc1) (fun _ => ?_)
    refine xs_aload_n d52_10 rfl ?_
    refine xe_geti d52_11 ky52 fl74 fk6_2 ?_
    refine xs_iload_n d52_14 rfl ?_
    refine xs_ishr d52_15 ?_
    refine xs_iconst (v := 1) d52_16 (by decide) ?_
    refine xs_iand d52_17 ?_
    rcases lk_if hf with ⟨hc2, hf⟩ | ⟨hc2, hf⟩
    · refine xs_if_eq (tgt := 30) d52_18 (by decide) (fun _ => ?_) (fun hn => absurd hc2 hn)
      exact f_State_load_b30_ok hD hf K1 K0
    · refine xs_if_eq (tgt := 30) d52_18 (by decide) (fun hp => absurd hp hc2) (fun _ => ?_)
      refine xs_iload_n d52_21 rfl ?_
      refine xs_aload_n d52_22 rfl ?_
      refine xe_getc (j := i0) d52_23 ky52 fl87 fk6_6 (by omega) ?_
      refine xs_iload_n d52_26 rfl ?_
      obtain ⟨hin4, hf⟩ := lk_g hf
      refine xe_iald d52_27 (by decide) ak31 hin4 ?_
      refine xs_iadd d52_28 ?_
      obtain ⟨v2_5, ev2_5, hf⟩ := lk_let hf
      refine xe_istore_n (v := v2_5) (ls2 := [(0, xr 6 (some i0)), (2, xi v2_5), (3, xi v3)]) d52_29 mx52 (by decide) ev2_5 rfl ?_
      exact f_State_load_b30_ok hD hf K1 K0
noncomputable def f_State_load_l4 (i0 : Nat) (v2 : Int32) (v3 : Int32) (h : xH) : Option Int32 :=
  whl (fun s => f_State_load_s4 i0 s.1 s.2 h) (v2, v3)
theorem f_State_load_l4_ok {g : xG} {l : Launch} {d : Nat} {i0 : Nat} {v2 : Int32} {v3 : Int32} {h : xH} {o : Int32} {R : Option xV} (hD : 0 ≤ d) (hf : f_State_load_l4 i0 v2 v3 h = some o) (K0 : ∀ (a : Int32), o = a → R = some (xi a)) : xEv g l d 52 4 [(0, xr 6 (some i0)), (2, xi v2), (3, xi v3)] [] h R h := by
  obtain ⟨n, hn⟩ := whl_iff.mp hf
  clear hf
  induction n generalizing v2 v3 with
  | zero => cases hn
  | succ n ih =>
    obtain ⟨o2, hs, hn⟩ := lk_b (show (f_State_load_s4 i0 v2 v3 h).bind (fun o => Sum.elim (itn _ n) some o) = some o from hn)
    exact f_State_load_s4_ok hD hs (fun u0 u1 e => ih (by rw [e] at hn; exact hn)) (fun u0 e => K0 u0 (by rw [e] at hn; exact (Option.some.inj hn).symm))
noncomputable def f_State_load_e (i0 : Nat) (v1 : Int32) (h : xH) : Option Int32 :=
  f_State_load_l4 i0 v1 (0 : Int32) h
set_option maxHeartbeats 4000000 in
set_option maxRecDepth 100000 in
theorem f_State_load_e_ok {g : xG} {l : Launch} {d : Nat} {i0 : Nat} {v1 : Int32} {h : xH} {o : Int32} {R : Option xV} (hD : 0 ≤ d) (hf : f_State_load_e i0 v1 h = some o) (K0 : ∀ (a : Int32), o = a → R = some (xi a)) : xEv g l d 52 0 [(0, xr 6 (some i0)), (1, xi v1)] [] h R h := by
  unfold f_State_load_e at hf
  refine xs_iload_n d52_0 rfl ?_
  refine xe_istore_n (v := v1) (ls2 := [(0, xr 6 (some i0)), (1, xi v1), (2, xi v1)]) d52_1 mx52 (by decide) rfl rfl ?_
  refine xs_iconst (v := 0) d52_2 (by decide) ?_
  refine xe_istore_n (v := (0 : Int32)) (ls2 := [(0, xr 6 (some i0)), (1, xi v1), (2, xi v1), (3, xi (0 : Int32))]) d52_3 mx52 (by decide) rfl rfl ?_
  refine xs_pick [0, 2, 3] rfl ?_
  exact f_State_load_l4_ok hD hf K0
noncomputable def f_State_load (i0 : Nat) (v1 : Int32) (h : xH) : Option Int32 := f_State_load_e i0 v1 h
theorem f_State_load_ok {g : xG} {l : Launch} {d : Nat} {i0 : Nat} {v1 : Int32} {h : xH} {r : Int32} (hD : 0 ≤ d) (hf : f_State_load i0 v1 h = some r) : xC g l d 52 [xr 6 (some i0), xi v1] h (some (xi r)) h :=
  xC_of (by decide) (Nat.le_of_ble_eq_true rfl) (f_State_load_e_ok hD hf (fun _ e => by rw [e]))
theorem d53_0 : decode (xcode 53) 0 = .ok (.iconst 0, 1) := by decide +kernel
theorem d53_1 : decode (xcode 53) 1 = .ok (.istore_n 2, 1) := by decide +kernel
theorem d53_2 : decode (xcode 53) 2 = .ok (.iconst 0, 1) := by decide +kernel
theorem d53_3 : decode (xcode 53) 3 = .ok (.istore_n 3, 1) := by decide +kernel
theorem d53_4 : decode (xcode 53) 4 = .ok (.iload_n 3, 1) := by decide +kernel
theorem d53_5 : decode (xcode 53) 5 = .ok (.bipush 8, 2) := by decide +kernel
theorem d53_7 : decode (xcode 53) 7 = .ok (.if_icmp .ge 36, 3) := by decide +kernel
theorem d53_10 : decode (xcode 53) 10 = .ok (.aload_n 0, 1) := by decide +kernel
theorem d53_11 : decode (xcode 53) 11 = .ok (.getfield 36, 3) := by decide +kernel
theorem d53_14 : decode (xcode 53) 14 = .ok (.iload_n 3, 1) := by decide +kernel
theorem d53_15 : decode (xcode 53) 15 = .ok (.ishr, 1) := by decide +kernel
theorem d53_16 : decode (xcode 53) 16 = .ok (.iconst 1, 1) := by decide +kernel
theorem d53_17 : decode (xcode 53) 17 = .ok (.iand, 1) := by decide +kernel
theorem d53_18 : decode (xcode 53) 18 = .ok (.ifCond .eq 19, 3) := by decide +kernel
theorem d53_21 : decode (xcode 53) 21 = .ok (.aload_n 0, 1) := by decide +kernel
theorem d53_22 : decode (xcode 53) 22 = .ok (.getfield 15, 3) := by decide +kernel
theorem d53_25 : decode (xcode 53) 25 = .ok (.iload_n 3, 1) := by decide +kernel
theorem d53_26 : decode (xcode 53) 26 = .ok (.iaload, 1) := by decide +kernel
theorem d53_27 : decode (xcode 53) 27 = .ok (.iload_n 1, 1) := by decide +kernel
theorem d53_28 : decode (xcode 53) 28 = .ok (.ishr, 1) := by decide +kernel
theorem d53_29 : decode (xcode 53) 29 = .ok (.iconst 1, 1) := by decide +kernel
theorem d53_30 : decode (xcode 53) 30 = .ok (.iand, 1) := by decide +kernel
theorem d53_31 : decode (xcode 53) 31 = .ok (.ifCond .eq 6, 3) := by decide +kernel
theorem d53_34 : decode (xcode 53) 34 = .ok (.iinc 2 1, 3) := by decide +kernel
theorem d53_37 : decode (xcode 53) 37 = .ok (.iinc 3 1, 3) := by decide +kernel
theorem d53_40 : decode (xcode 53) 40 = .ok (.goto (-36), 3) := by decide +kernel
theorem d53_43 : decode (xcode 53) 43 = .ok (.iload_n 2, 1) := by decide +kernel
theorem d53_44 : decode (xcode 53) 44 = .ok (.ireturn, 1) := by decide +kernel
noncomputable def f_State_overOf_b37 (i0 : Nat) (v1 : Int32) (v2 : Int32) (v3 : Int32) (h : xH) : Option ((Int32 × Int32) ⊕ Int32) :=
  xlet (v3 + (1 : Int32)) fun v3_3 =>
  some (Sum.inl (v2, v3_3))
set_option maxHeartbeats 4000000 in
set_option maxRecDepth 100000 in
theorem f_State_overOf_b37_ok {g : xG} {l : Launch} {d : Nat} {i0 : Nat} {v1 : Int32} {v2 : Int32} {v3 : Int32} {h : xH} {o : ((Int32 × Int32) ⊕ Int32)} {R : Option xV} (hD : 0 ≤ d) (hf : f_State_overOf_b37 i0 v1 v2 v3 h = some o) (K1 : ∀ (w2 : Int32) (w3 : Int32), o = Sum.inl (w2, w3) → xEv g l d 53 4 [(0, xr 6 (some i0)), (1, xi v1), (2, xi w2), (3, xi w3)] [] h R h) (K0 : ∀ (a : Int32), o = Sum.inr (a) → R = some (xi a)) : xEv g l d 53 37 [(0, xr 6 (some i0)), (1, xi v1), (2, xi v2), (3, xi v3)] [] h R h := by
  unfold f_State_overOf_b37 at hf
  obtain ⟨v3_3, ev3_3, hf⟩ := lk_let hf
  refine xe_iinc (v := v3_3) (b := 1) (ls2 := [(0, xr 6 (some i0)), (1, xi v1), (2, xi v2), (3, xi v3_3)]) d53_37 mx53 (by decide) rfl (by decide) ev3_3 rfl ?_
  refine xs_goto (tgt := 4) d53_40 (by decide) ?_
  exact K1 _ _ (Option.some.inj hf).symm
noncomputable def f_State_overOf_s4 (i0 : Nat) (v1 : Int32) (v2 : Int32) (v3 : Int32) (h : xH) : Option ((Int32 × Int32) ⊕ Int32) :=
  if (8 : Int32) ≤ v3 then (
  some (Sum.inr (v2))) else (
  if (((h.1 6 2 i0) >>> (v3 &&& 31)) &&& (1 : Int32)) = (0 : Int32) then (
  f_State_overOf_b37 i0 v1 v2 v3 h) else (
  if xib v3 8 then (
  if (((h.2.2.2.1 30 i0 (v3).toNatClampNeg) >>> (v1 &&& 31)) &&& (1 : Int32)) = (0 : Int32) then (
  f_State_overOf_b37 i0 v1 v2 v3 h) else (
  xlet (v2 + (1 : Int32)) fun v2_6 =>
  f_State_overOf_b37 i0 v1 v2_6 v3 h)) else none))
set_option maxHeartbeats 4000000 in
set_option maxRecDepth 100000 in
theorem f_State_overOf_s4_ok {g : xG} {l : Launch} {d : Nat} {i0 : Nat} {v1 : Int32} {v2 : Int32} {v3 : Int32} {h : xH} {o : ((Int32 × Int32) ⊕ Int32)} {R : Option xV} (hD : 0 ≤ d) (hf : f_State_overOf_s4 i0 v1 v2 v3 h = some o) (K1 : ∀ (w2 : Int32) (w3 : Int32), o = Sum.inl (w2, w3) → xEv g l d 53 4 [(0, xr 6 (some i0)), (1, xi v1), (2, xi w2), (3, xi w3)] [] h R h) (K0 : ∀ (a : Int32), o = Sum.inr (a) → R = some (xi a)) : xEv g l d 53 4 [(0, xr 6 (some i0)), (1, xi v1), (2, xi v2), (3, xi v3)] [] h R h := by
  unfold f_State_overOf_s4 at hf
  refine xs_iload_n d53_4 rfl ?_
  refine xs_bipush (v := 8) d53_5 (by decide) ?_
  rcases lk_if hf with ⟨hc1, hf⟩ | ⟨hc1, hf⟩
  · refine xs_icmp_ge (tgt := 43) d53_7 (by decide) (fun _ => ?_) (fun hn => absurd hc1 hn)
    refine xs_iload_n d53_43 rfl ?_
    obtain eR := K0 _ (Option.some.inj hf).symm
    subst eR
    exact xs_iret d53_44 rt53
  · refine xs_icmp_ge (tgt := 43) d53_7 (by decide) (fun hp => absurd hp hc1) (fun _ => ?_)
    refine xs_aload_n d53_10 rfl ?_
    refine xe_geti d53_11 ky53 fl74 fk6_2 ?_
    refine xs_iload_n d53_14 rfl ?_
    refine xs_ishr d53_15 ?_
    refine xs_iconst (v := 1) d53_16 (by decide) ?_
    refine xs_iand d53_17 ?_
    rcases lk_if hf with ⟨hc2, hf⟩ | ⟨hc2, hf⟩
    · refine xs_if_eq (tgt := 37) d53_18 (by decide) (fun _ => ?_) (fun hn => absurd hc2 hn)
      exact f_State_overOf_b37_ok hD hf K1 K0
    · refine xs_if_eq (tgt := 37) d53_18 (by decide) (fun hp => absurd hp hc2) (fun _ => ?_)
      refine xs_aload_n d53_21 rfl ?_
      refine xe_getc (j := i0) d53_22 ky53 fl84 fk6_5 (by omega) ?_
      refine xs_iload_n d53_25 rfl ?_
      obtain ⟨hin4, hf⟩ := lk_g hf
      refine xe_iald d53_26 (by decide) ak30 hin4 ?_
      refine xs_iload_n d53_27 rfl ?_
      refine xs_ishr d53_28 ?_
      refine xs_iconst (v := 1) d53_29 (by decide) ?_
      refine xs_iand d53_30 ?_
      rcases lk_if hf with ⟨hc5, hf⟩ | ⟨hc5, hf⟩
      · refine xs_if_eq (tgt := 37) d53_31 (by decide) (fun _ => ?_) (fun hn => absurd hc5 hn)
        exact f_State_overOf_b37_ok hD hf K1 K0
      · refine xs_if_eq (tgt := 37) d53_31 (by decide) (fun hp => absurd hp hc5) (fun _ => ?_)
        obtain ⟨v2_6, ev2_6, hf⟩ := lk_let hf
        refine xe_iinc (v := v2_6) (b := 1) (ls2 := [(0, xr 6 (some i0)), (1, xi v1), (2, xi v2_6), (3, xi v3)]) d53_34 mx53 (by decide) rfl (by decide) ev2_6 rfl ?_
        exact f_State_overOf_b37_ok hD hf K1 K0
noncomputable def f_State_overOf_l4 (i0 : Nat) (v1 : Int32) (v2 : Int32) (v3 : Int32) (h : xH) : Option Int32 :=
  whl (fun s => f_State_overOf_s4 i0 v1 s.1 s.2 h) (v2, v3)
theorem f_State_overOf_l4_ok {g : xG} {l : Launch} {d : Nat} {i0 : Nat} {v1 : Int32} {v2 : Int32} {v3 : Int32} {h : xH} {o : Int32} {R : Option xV} (hD : 0 ≤ d) (hf : f_State_overOf_l4 i0 v1 v2 v3 h = some o) (K0 : ∀ (a : Int32), o = a → R = some (xi a)) : xEv g l d 53 4 [(0, xr 6 (some i0)), (1, xi v1), (2, xi v2), (3, xi v3)] [] h R h := by
  obtain ⟨n, hn⟩ := whl_iff.mp hf
  clear hf
  induction n generalizing v2 v3 with
  | zero => cases hn
  | succ n ih =>
    obtain ⟨o2, hs, hn⟩ := lk_b (show (f_State_overOf_s4 i0 v1 v2 v3 h).bind (fun o => Sum.elim (itn _ n) some o) = some o from hn)
    exact f_State_overOf_s4_ok hD hs (fun u0 u1 e => ih (by rw [e] at hn; exact hn)) (fun u0 e => K0 u0 (by rw [e] at hn; exact (Option.some.inj hn).symm))
noncomputable def f_State_overOf_e (i0 : Nat) (v1 : Int32) (h : xH) : Option Int32 :=
  f_State_overOf_l4 i0 v1 (0 : Int32) (0 : Int32) h
set_option maxHeartbeats 4000000 in
set_option maxRecDepth 100000 in
theorem f_State_overOf_e_ok {g : xG} {l : Launch} {d : Nat} {i0 : Nat} {v1 : Int32} {h : xH} {o : Int32} {R : Option xV} (hD : 0 ≤ d) (hf : f_State_overOf_e i0 v1 h = some o) (K0 : ∀ (a : Int32), o = a → R = some (xi a)) : xEv g l d 53 0 [(0, xr 6 (some i0)), (1, xi v1)] [] h R h := by
  unfold f_State_overOf_e at hf
  refine xs_iconst (v := 0) d53_0 (by decide) ?_
  refine xe_istore_n (v := (0 : Int32)) (ls2 := [(0, xr 6 (some i0)), (1, xi v1), (2, xi (0 : Int32))]) d53_1 mx53 (by decide) rfl rfl ?_
  refine xs_iconst (v := 0) d53_2 (by decide) ?_
  refine xe_istore_n (v := (0 : Int32)) (ls2 := [(0, xr 6 (some i0)), (1, xi v1), (2, xi (0 : Int32)), (3, xi (0 : Int32))]) d53_3 mx53 (by decide) rfl rfl ?_
  exact f_State_overOf_l4_ok hD hf K0
noncomputable def f_State_overOf (i0 : Nat) (v1 : Int32) (h : xH) : Option Int32 := f_State_overOf_e i0 v1 h
theorem f_State_overOf_ok {g : xG} {l : Launch} {d : Nat} {i0 : Nat} {v1 : Int32} {h : xH} {r : Int32} (hD : 0 ≤ d) (hf : f_State_overOf i0 v1 h = some r) : xC g l d 53 [xr 6 (some i0), xi v1] h (some (xi r)) h :=
  xC_of (by decide) (Nat.le_of_ble_eq_true rfl) (f_State_overOf_e_ok hD hf (fun _ e => by rw [e]))
theorem d54_0 : decode (xcode 54) 0 = .ok (.aload_n 0, 1) := by decide +kernel
theorem d54_1 : decode (xcode 54) 1 = .ok (.sipush 9999, 3) := by decide +kernel
theorem d54_4 : decode (xcode 54) 4 = .ok (.aload_n 0, 1) := by decide +kernel
theorem d54_5 : decode (xcode 54) 5 = .ok (.getfield 24, 3) := by decide +kernel
theorem d54_8 : decode (xcode 54) 8 = .ok (.iload_n 1, 1) := by decide +kernel
theorem d54_9 : decode (xcode 54) 9 = .ok (.iadd, 1) := by decide +kernel
theorem d54_10 : decode (xcode 54) 10 = .ok (.invokestatic 61, 3) := by decide +kernel
theorem d54_13 : decode (xcode 54) 13 = .ok (.putfield 24, 3) := by decide +kernel
theorem d54_16 : decode (xcode 54) 16 = .ok (.return_, 1) := by decide +kernel
noncomputable def f_State_pass_e (i0 : Nat) (v1 : Int32) (h : xH) : Option xH :=
  (f_Math_min (9999 : Int32) ((h.1 6 0 i0) + v1) h).bind fun r1 =>
  xlet (xsI h 6 0 i0 r1) fun h3 =>
  some (h3)
set_option maxHeartbeats 4000000 in
set_option maxRecDepth 100000 in
theorem f_State_pass_e_ok {g : xG} {l : Launch} {d : Nat} {i0 : Nat} {v1 : Int32} {h : xH} {o : xH} {R : Option xV} {H' : xH} (hD : 1 ≤ d) (hf : f_State_pass_e i0 v1 h = some o) (K0 : ∀ (h1 : xH), o = h1 → R = none ∧ H' = h1) : xEv g l d 54 0 [(0, xr 6 (some i0)), (1, xi v1)] [] h R H' := by
  unfold f_State_pass_e at hf
  refine xs_aload_n d54_0 rfl ?_
  refine xs_sipush (v := 9999) d54_1 (by decide) ?_
  refine xs_aload_n d54_4 rfl ?_
  refine xe_geti d54_5 ky54 fl67 fk6_0 ?_
  refine xs_iload_n d54_8 rfl ?_
  refine xs_iadd d54_9 ?_
  obtain ⟨r1, hc2, hf⟩ := lk_b hf
  refine xe_calls1 (as := [xi (9999 : Int32), xi ((h.1 6 0 i0) + v1)]) (st := [xr 6 (some i0)]) (h2 := h) (d2 := d - 1) d54_10 ky54 ml88 st257 rfl na257 (Nat.le_of_ble_eq_true rfl) (by omega) (f_Math_min_ok (by omega) hc2) ?_
  obtain ⟨h3, eh3, hf⟩ := lk_let hf
  refine xe_puti d54_13 ky54 fl67 fk6_0 ft6_0 eh3 ?_
  obtain ⟨eR, eH⟩ := K0 _ (Option.some.inj hf).symm
  subst eR; subst eH
  exact xs_vret d54_16 rt54
noncomputable def f_State_pass (i0 : Nat) (v1 : Int32) (h : xH) : Option xH := f_State_pass_e i0 v1 h
theorem f_State_pass_ok {g : xG} {l : Launch} {d : Nat} {i0 : Nat} {v1 : Int32} {h : xH} {h1 : xH} (hD : 1 ≤ d) (hf : f_State_pass i0 v1 h = some h1) : xC g l d 54 [xr 6 (some i0), xi v1] h none h1 :=
  xC_of (by decide) (Nat.le_of_ble_eq_true rfl) (f_State_pass_e_ok hD hf (fun _ e => ⟨rfl, e⟩))
theorem d55_0 : decode (xcode 55) 0 = .ok (.aload_n 0, 1) := by decide +kernel
theorem d55_1 : decode (xcode 55) 1 = .ok (.iload_n 1, 1) := by decide +kernel
theorem d55_2 : decode (xcode 55) 2 = .ok (.invokevirtual 51, 3) := by decide +kernel
theorem d55_5 : decode (xcode 55) 5 = .ok (.ifCond .ne 4, 3) := by decide +kernel
theorem d55_8 : decode (xcode 55) 8 = .ok (.return_, 1) := by decide +kernel
theorem d55_9 : decode (xcode 55) 9 = .ok (.aload_n 0, 1) := by decide +kernel
theorem d55_10 : decode (xcode 55) 10 = .ok (.aload_n 0, 1) := by decide +kernel
theorem d55_11 : decode (xcode 55) 11 = .ok (.getfield 21, 3) := by decide +kernel
theorem d55_14 : decode (xcode 55) 14 = .ok (.iload_n 1, 1) := by decide +kernel
theorem d55_15 : decode (xcode 55) 15 = .ok (.iaload, 1) := by decide +kernel
theorem d55_16 : decode (xcode 55) 16 = .ok (.invokevirtual 67, 3) := by decide +kernel
theorem d55_19 : decode (xcode 55) 19 = .ok (.aload_n 0, 1) := by decide +kernel
theorem d55_20 : decode (xcode 55) 20 = .ok (.dup, 1) := by decide +kernel
theorem d55_21 : decode (xcode 55) 21 = .ok (.getfield 36, 3) := by decide +kernel
theorem d55_24 : decode (xcode 55) 24 = .ok (.iconst 1, 1) := by decide +kernel
theorem d55_25 : decode (xcode 55) 25 = .ok (.iload_n 1, 1) := by decide +kernel
theorem d55_26 : decode (xcode 55) 26 = .ok (.ishl, 1) := by decide +kernel
theorem d55_27 : decode (xcode 55) 27 = .ok (.iconst (-1), 1) := by decide +kernel
theorem d55_28 : decode (xcode 55) 28 = .ok (.ixor, 1) := by decide +kernel
theorem d55_29 : decode (xcode 55) 29 = .ok (.iand, 1) := by decide +kernel
theorem d55_30 : decode (xcode 55) 30 = .ok (.putfield 36, 3) := by decide +kernel
theorem d55_33 : decode (xcode 55) 33 = .ok (.aload_n 0, 1) := by decide +kernel
theorem d55_34 : decode (xcode 55) 34 = .ok (.getfield 24, 3) := by decide +kernel
theorem d55_37 : decode (xcode 55) 37 = .ok (.iload_n 2, 1) := by decide +kernel
theorem d55_38 : decode (xcode 55) 38 = .ok (.if_icmp .gt 15, 3) := by decide +kernel
theorem d55_41 : decode (xcode 55) 41 = .ok (.aload_n 0, 1) := by decide +kernel
theorem d55_42 : decode (xcode 55) 42 = .ok (.dup, 1) := by decide +kernel
theorem d55_43 : decode (xcode 55) 43 = .ok (.getfield 39, 3) := by decide +kernel
theorem d55_46 : decode (xcode 55) 46 = .ok (.iconst 1, 1) := by decide +kernel
theorem d55_47 : decode (xcode 55) 47 = .ok (.iload_n 1, 1) := by decide +kernel
theorem d55_48 : decode (xcode 55) 48 = .ok (.ishl, 1) := by decide +kernel
theorem d55_49 : decode (xcode 55) 49 = .ok (.ior, 1) := by decide +kernel
theorem d55_50 : decode (xcode 55) 50 = .ok (.putfield 39, 3) := by decide +kernel
theorem d55_53 : decode (xcode 55) 53 = .ok (.aload_n 0, 1) := by decide +kernel
theorem d55_54 : decode (xcode 55) 54 = .ok (.getfield 9, 3) := by decide +kernel
theorem d55_57 : decode (xcode 55) 57 = .ok (.iload_n 1, 1) := by decide +kernel
theorem d55_58 : decode (xcode 55) 58 = .ok (.aload_n 0, 1) := by decide +kernel
theorem d55_59 : decode (xcode 55) 59 = .ok (.getfield 24, 3) := by decide +kernel
theorem d55_62 : decode (xcode 55) 62 = .ok (.iastore, 1) := by decide +kernel
theorem d55_63 : decode (xcode 55) 63 = .ok (.return_, 1) := by decide +kernel
noncomputable def f_State_lift_b53 (i0 : Nat) (v1 : Int32) (h : xH) : Option xH :=
  if xib v1 8 then (
  xlet (xsA h 29 i0 (upd (h.2.2.2.1 29 i0) (v1).toNatClampNeg (h.1 6 0 i0))) fun h11 =>
  some (h11)) else none
set_option maxHeartbeats 4000000 in
set_option maxRecDepth 100000 in
theorem f_State_lift_b53_ok {g : xG} {l : Launch} {d : Nat} {i0 : Nat} {v1 : Int32} {h : xH} {o : xH} {R : Option xV} {H' : xH} (hD : 2 ≤ d) (hf : f_State_lift_b53 i0 v1 h = some o) (K0 : ∀ (h1 : xH), o = h1 → R = none ∧ H' = h1) : xEv g l d 55 53 [(0, xr 6 (some i0)), (1, xi v1)] [] h R H' := by
  unfold f_State_lift_b53 at hf
  refine xs_aload_n d55_53 rfl ?_
  refine xe_getc (j := i0) d55_54 ky55 fl82 fk6_4 (by omega) ?_
  refine xs_iload_n d55_57 rfl ?_
  refine xs_aload_n d55_58 rfl ?_
  refine xe_geti d55_59 ky55 fl67 fk6_0 ?_
  obtain ⟨hin10, hf⟩ := lk_g hf
  obtain ⟨h11, eh11, hf⟩ := lk_let hf
  refine xe_iast d55_62 (by decide) ak29 hin10  eh11 ?_
  obtain ⟨eR, eH⟩ := K0 _ (Option.some.inj hf).symm
  subst eR; subst eH
  exact xs_vret d55_63 rt55
noncomputable def f_State_lift_e (i0 : Nat) (v1 : Int32) (v2 : Int32) (h : xH) : Option xH :=
  (f_State_isIn i0 v1 h).bind fun r1 =>
  if r1 = (0 : Int32) then (
  some (h)) else (
  if xib v1 8 then (
  (f_State_pass i0 (h.2.2.2.1 32 i0 (v1).toNatClampNeg) h).bind fun h7 =>
  xlet (xsI h7 6 2 i0 ((h7.1 6 2 i0) &&& (((1 : Int32) <<< (v1 &&& 31)) ^^^ (-1 : Int32)))) fun h8 =>
  if v2 < (h8.1 6 0 i0) then (
  f_State_lift_b53 i0 v1 h8) else (
  xlet (xsI h8 6 3 i0 ((h8.1 6 3 i0) ||| ((1 : Int32) <<< (v1 &&& 31)))) fun h12 =>
  f_State_lift_b53 i0 v1 h12)) else none)
set_option maxHeartbeats 4000000 in
set_option maxRecDepth 100000 in
theorem f_State_lift_e_ok {g : xG} {l : Launch} {d : Nat} {i0 : Nat} {v1 : Int32} {v2 : Int32} {h : xH} {o : xH} {R : Option xV} {H' : xH} (hD : 2 ≤ d) (hf : f_State_lift_e i0 v1 v2 h = some o) (K0 : ∀ (h1 : xH), o = h1 → R = none ∧ H' = h1) : xEv g l d 55 0 [(0, xr 6 (some i0)), (1, xi v1), (2, xi v2)] [] h R H' := by
  unfold f_State_lift_e at hf
  refine xs_aload_n d55_0 rfl ?_
  refine xs_iload_n d55_1 rfl ?_
  obtain ⟨r1, hc2, hf⟩ := lk_b hf
  refine xe_callv1 (as := [xi v1]) (st := []) (h2 := h) (d2 := d - 1) d55_2 ky55 ml60 st47 (by decide) cn47 rfl na47 (Nat.le_of_ble_eq_true rfl) (by omega) (f_State_isIn_ok (by omega) hc2) ?_
  rcases lk_if hf with ⟨hc3, hf⟩ | ⟨hc3, hf⟩
  · refine xs_if_ne (tgt := 9) d55_5 (by decide) (fun _ => ?_) (fun hn => absurd hc3 hn)
    obtain ⟨eR, eH⟩ := K0 _ (Option.some.inj hf).symm
    subst eR; subst eH
    exact xs_vret d55_8 rt55
  · refine xs_if_ne (tgt := 9) d55_5 (by decide) (fun hp => absurd hp hc3) (fun _ => ?_)
    refine xs_aload_n d55_9 rfl ?_
    refine xs_aload_n d55_10 rfl ?_
    refine xe_getc (j := i0) d55_11 ky55 fl91 fk6_7 (by omega) ?_
    refine xs_iload_n d55_14 rfl ?_
    obtain ⟨hin4, hf⟩ := lk_g hf
    refine xe_iald d55_15 (by decide) ak32 hin4 ?_
    obtain ⟨h7, hc6, hf⟩ := lk_b hf
    refine xe_callv0 (as := [xi (h.2.2.2.1 32 i0 (v1).toNatClampNeg)]) (st := []) (h2 := h7) (d2 := d - 1) d55_16 ky55 ml90 st54 (by decide) cn54 rfl na54 (Nat.le_of_ble_eq_true rfl) (by omega) (f_State_pass_ok (by omega) hc6) ?_
    refine xs_aload_n d55_19 rfl ?_
    refine xs_dup d55_20 rfl ?_
    refine xe_geti d55_21 ky55 fl74 fk6_2 ?_
    refine xs_iconst (v := 1) d55_24 (by decide) ?_
    refine xs_iload_n d55_25 rfl ?_
    refine xs_ishl d55_26 ?_
    refine xs_iconst (v := -1) d55_27 (by decide) ?_
    refine xs_ixor d55_28 ?_
    refine xs_iand d55_29 ?_
    obtain ⟨h8, eh8, hf⟩ := lk_let hf
    refine xe_puti d55_30 ky55 fl74 fk6_2 ft6_2 eh8 ?_
    refine xs_aload_n d55_33 rfl ?_
    refine xe_geti d55_34 ky55 fl67 fk6_0 ?_
    refine xs_iload_n d55_37 rfl ?_
    rcases lk_if hf with ⟨hc9, hf⟩ | ⟨hc9, hf⟩
    · refine xs_icmp_gt (tgt := 53) d55_38 (by decide) (fun _ => ?_) (fun hn => absurd hc9 hn)
      refine xs_pick [0, 1] rfl ?_
      exact f_State_lift_b53_ok hD hf K0
    · refine xs_icmp_gt (tgt := 53) d55_38 (by decide) (fun hp => absurd hp hc9) (fun _ => ?_)
      refine xs_aload_n d55_41 rfl ?_
      refine xs_dup d55_42 rfl ?_
      refine xe_geti d55_43 ky55 fl79 fk6_3 ?_
      refine xs_iconst (v := 1) d55_46 (by decide) ?_
      refine xs_iload_n d55_47 rfl ?_
      refine xs_ishl d55_48 ?_
      refine xs_ior d55_49 ?_
      obtain ⟨h12, eh12, hf⟩ := lk_let hf
      refine xe_puti d55_50 ky55 fl79 fk6_3 ft6_3 eh12 ?_
      refine xs_pick [0, 1] rfl ?_
      exact f_State_lift_b53_ok hD hf K0
noncomputable def f_State_lift (i0 : Nat) (v1 : Int32) (v2 : Int32) (h : xH) : Option xH := f_State_lift_e i0 v1 v2 h
theorem f_State_lift_ok {g : xG} {l : Launch} {d : Nat} {i0 : Nat} {v1 : Int32} {v2 : Int32} {h : xH} {h1 : xH} (hD : 2 ≤ d) (hf : f_State_lift i0 v1 v2 h = some h1) : xC g l d 55 [xr 6 (some i0), xi v1, xi v2] h none h1 :=
  xC_of (by decide) (Nat.le_of_ble_eq_true rfl) (f_State_lift_e_ok hD hf (fun _ e => ⟨rfl, e⟩))
theorem d56_0 : decode (xcode 56) 0 = .ok (.aload_n 0, 1) := by decide +kernel
theorem d56_1 : decode (xcode 56) 1 = .ok (.getfield 25, 3) := by decide +kernel
theorem d56_4 : decode (xcode 56) 4 = .ok (.iload_n 1, 1) := by decide +kernel
theorem d56_5 : decode (xcode 56) 5 = .ok (.iadd, 1) := by decide +kernel
theorem d56_6 : decode (xcode 56) 6 = .ok (.sipush 400, 3) := by decide +kernel
theorem d56_9 : decode (xcode 56) 9 = .ok (.if_icmp .gt 7, 3) := by decide +kernel
theorem d56_12 : decode (xcode 56) 12 = .ok (.iconst 1, 1) := by decide +kernel
theorem d56_13 : decode (xcode 56) 13 = .ok (.goto 4, 3) := by decide +kernel
theorem d56_16 : decode (xcode 56) 16 = .ok (.iconst 0, 1) := by decide +kernel
theorem d56_17 : decode (xcode 56) 17 = .ok (.ireturn, 1) := by decide +kernel
noncomputable def f_Tape_hasRoom_e (v1 : Int32) (h : xH) : Option Int32 :=
  if (400 : Int32) < ((h.1 7 6 0) + v1) then (
  some ((0 : Int32))) else (
  some ((1 : Int32)))
set_option maxHeartbeats 4000000 in
set_option maxRecDepth 100000 in
theorem f_Tape_hasRoom_e_ok {g : xG} {l : Launch} {d : Nat} {v1 : Int32} {h : xH} {o : Int32} {R : Option xV} (hD : 0 ≤ d) (hf : f_Tape_hasRoom_e v1 h = some o) (K0 : ∀ (a : Int32), o = a → R = some (xi a)) : xEv g l d 56 0 [(0, xr 7 (some 0)), (1, xi v1)] [] h R h := by
  unfold f_Tape_hasRoom_e at hf
  refine xs_aload_n d56_0 rfl ?_
  refine xe_geti d56_1 ky56 fl6 fk7_6 ?_
  refine xs_iload_n d56_4 rfl ?_
  refine xs_iadd d56_5 ?_
  refine xs_sipush (v := 400) d56_6 (by decide) ?_
  rcases lk_if hf with ⟨hc1, hf⟩ | ⟨hc1, hf⟩
  · refine xs_icmp_gt (tgt := 16) d56_9 (by decide) (fun _ => ?_) (fun hn => absurd hc1 hn)
    refine xs_iconst (v := 0) d56_16 (by decide) ?_
    obtain eR := K0 _ (Option.some.inj hf).symm
    subst eR
    exact xe_zret d56_17 (Or.inl rfl) rt56
  · refine xs_icmp_gt (tgt := 16) d56_9 (by decide) (fun hp => absurd hp hc1) (fun _ => ?_)
    refine xs_iconst (v := 1) d56_12 (by decide) ?_
    refine xs_goto (tgt := 17) d56_13 (by decide) ?_
    obtain eR := K0 _ (Option.some.inj hf).symm
    subst eR
    exact xe_zret d56_17 (Or.inr rfl) rt56
noncomputable def f_Tape_hasRoom (v1 : Int32) (h : xH) : Option Int32 := f_Tape_hasRoom_e v1 h
theorem f_Tape_hasRoom_ok {g : xG} {l : Launch} {d : Nat} {v1 : Int32} {h : xH} {r : Int32} (hD : 0 ≤ d) (hf : f_Tape_hasRoom v1 h = some r) : xC g l d 56 [xr 7 (some 0), xi v1] h (some (xi r)) h :=
  xC_of (by decide) (Nat.le_of_ble_eq_true rfl) (f_Tape_hasRoom_e_ok hD hf (fun _ e => by rw [e]))
theorem d57_0 : decode (xcode 57) 0 = .ok (.bipush 24, 2) := by decide +kernel
theorem d57_2 : decode (xcode 57) 2 = .ok (.istore_n 2, 1) := by decide +kernel
theorem d57_3 : decode (xcode 57) 3 = .ok (.iload_n 2, 1) := by decide +kernel
theorem d57_4 : decode (xcode 57) 4 = .ok (.ifCond .lt 49, 3) := by decide +kernel
theorem d57_7 : decode (xcode 57) 7 = .ok (.aload_n 0, 1) := by decide +kernel
theorem d57_8 : decode (xcode 57) 8 = .ok (.getfield 25, 3) := by decide +kernel
theorem d57_11 : decode (xcode 57) 11 = .ok (.ifCond .lt 36, 3) := by decide +kernel
theorem d57_14 : decode (xcode 57) 14 = .ok (.aload_n 0, 1) := by decide +kernel
theorem d57_15 : decode (xcode 57) 15 = .ok (.getfield 25, 3) := by decide +kernel
theorem d57_18 : decode (xcode 57) 18 = .ok (.sipush 400, 3) := by decide +kernel
theorem d57_21 : decode (xcode 57) 21 = .ok (.if_icmp .ge 26, 3) := by decide +kernel
theorem d57_24 : decode (xcode 57) 24 = .ok (.aload_n 0, 1) := by decide +kernel
theorem d57_25 : decode (xcode 57) 25 = .ok (.getfield 11, 3) := by decide +kernel
theorem d57_28 : decode (xcode 57) 28 = .ok (.aload_n 0, 1) := by decide +kernel
theorem d57_29 : decode (xcode 57) 29 = .ok (.getfield 25, 3) := by decide +kernel
theorem d57_32 : decode (xcode 57) 32 = .ok (.iload_n 1, 1) := by decide +kernel
theorem d57_33 : decode (xcode 57) 33 = .ok (.iload_n 2, 1) := by decide +kernel
theorem d57_34 : decode (xcode 57) 34 = .ok (.ishr, 1) := by decide +kernel
theorem d57_35 : decode (xcode 57) 35 = .ok (.i2b, 1) := by decide +kernel
theorem d57_36 : decode (xcode 57) 36 = .ok (.bastore, 1) := by decide +kernel
theorem d57_37 : decode (xcode 57) 37 = .ok (.aload_n 0, 1) := by decide +kernel
theorem d57_38 : decode (xcode 57) 38 = .ok (.dup, 1) := by decide +kernel
theorem d57_39 : decode (xcode 57) 39 = .ok (.getfield 25, 3) := by decide +kernel
theorem d57_42 : decode (xcode 57) 42 = .ok (.iconst 1, 1) := by decide +kernel
theorem d57_43 : decode (xcode 57) 43 = .ok (.iadd, 1) := by decide +kernel
theorem d57_44 : decode (xcode 57) 44 = .ok (.putfield 25, 3) := by decide +kernel
theorem d57_47 : decode (xcode 57) 47 = .ok (.iinc 2 (-8), 3) := by decide +kernel
theorem d57_50 : decode (xcode 57) 50 = .ok (.goto (-47), 3) := by decide +kernel
theorem d57_53 : decode (xcode 57) 53 = .ok (.return_, 1) := by decide +kernel
noncomputable def f_Tape_put_b47 (v1 : Int32) (v2 : Int32) (h : xH) : Option ((Int32 × xH) ⊕ xH) :=
  xlet (v2 + (-8 : Int32)) fun v2_3 =>
  some (Sum.inl (v2_3, h))
set_option maxHeartbeats 4000000 in
set_option maxRecDepth 100000 in
theorem f_Tape_put_b47_ok {g : xG} {l : Launch} {d : Nat} {v1 : Int32} {v2 : Int32} {h : xH} {o : ((Int32 × xH) ⊕ xH)} {R : Option xV} {H' : xH} (hD : 0 ≤ d) (hf : f_Tape_put_b47 v1 v2 h = some o) (K1 : ∀ (w2 : Int32) (h1 : xH), o = Sum.inl (w2, h1) → xEv g l d 57 3 [(0, xr 7 (some 0)), (1, xi v1), (2, xi w2)] [] h1 R H') (K0 : ∀ (h1 : xH), o = Sum.inr (h1) → R = none ∧ H' = h1) : xEv g l d 57 47 [(0, xr 7 (some 0)), (1, xi v1), (2, xi v2)] [] h R H' := by
  unfold f_Tape_put_b47 at hf
  obtain ⟨v2_3, ev2_3, hf⟩ := lk_let hf
  refine xe_iinc (v := v2_3) (b := -8) (ls2 := [(0, xr 7 (some 0)), (1, xi v1), (2, xi v2_3)]) d57_47 mx57 (by decide) rfl (by decide) ev2_3 rfl ?_
  refine xs_goto (tgt := 3) d57_50 (by decide) ?_
  exact K1 _ _ (Option.some.inj hf).symm
noncomputable def f_Tape_put_s3 (v1 : Int32) (v2 : Int32) (h : xH) : Option ((Int32 × xH) ⊕ xH) :=
  if v2 < (0 : Int32) then (
  some (Sum.inr (h))) else (
  if (h.1 7 6 0) < (0 : Int32) then (
  f_Tape_put_b47 v1 v2 h) else (
  if (400 : Int32) ≤ (h.1 7 6 0) then (
  f_Tape_put_b47 v1 v2 h) else (
  if xib (h.1 7 6 0) 400 then (
  xlet (xsA h 33 0 (upd (h.2.2.2.1 33 0) (h.1 7 6 0).toNatClampNeg ((v1 >>> (v2 &&& 31)).toInt8.toInt32).toInt8.toInt32)) fun h6 =>
  xlet (xsI h6 7 6 0 ((h6.1 7 6 0) + (1 : Int32))) fun h7 =>
  f_Tape_put_b47 v1 v2 h7) else none)))
set_option maxHeartbeats 4000000 in
set_option maxRecDepth 100000 in
theorem f_Tape_put_s3_ok {g : xG} {l : Launch} {d : Nat} {v1 : Int32} {v2 : Int32} {h : xH} {o : ((Int32 × xH) ⊕ xH)} {R : Option xV} {H' : xH} (hD : 0 ≤ d) (hf : f_Tape_put_s3 v1 v2 h = some o) (K1 : ∀ (w2 : Int32) (h1 : xH), o = Sum.inl (w2, h1) → xEv g l d 57 3 [(0, xr 7 (some 0)), (1, xi v1), (2, xi w2)] [] h1 R H') (K0 : ∀ (h1 : xH), o = Sum.inr (h1) → R = none ∧ H' = h1) : xEv g l d 57 3 [(0, xr 7 (some 0)), (1, xi v1), (2, xi v2)] [] h R H' := by
  unfold f_Tape_put_s3 at hf
  refine xs_iload_n d57_3 rfl ?_
  rcases lk_if hf with ⟨hc1, hf⟩ | ⟨hc1, hf⟩
  · refine xs_if_lt (tgt := 53) d57_4 (by decide) (fun _ => ?_) (fun hn => absurd hc1 hn)
    obtain ⟨eR, eH⟩ := K0 _ (Option.some.inj hf).symm
    subst eR; subst eH
    exact xs_vret d57_53 rt57
  · refine xs_if_lt (tgt := 53) d57_4 (by decide) (fun hp => absurd hp hc1) (fun _ => ?_)
    refine xs_aload_n d57_7 rfl ?_
    refine xe_geti d57_8 ky57 fl6 fk7_6 ?_
    rcases lk_if hf with ⟨hc2, hf⟩ | ⟨hc2, hf⟩
    · refine xs_if_lt (tgt := 47) d57_11 (by decide) (fun _ => ?_) (fun hn => absurd hc2 hn)
      exact f_Tape_put_b47_ok hD hf K1 K0
    · refine xs_if_lt (tgt := 47) d57_11 (by decide) (fun hp => absurd hp hc2) (fun _ => ?_)
      refine xs_aload_n d57_14 rfl ?_
      refine xe_geti d57_15 ky57 fl6 fk7_6 ?_
      refine xs_sipush (v := 400) d57_18 (by decide) ?_
      rcases lk_if hf with ⟨hc4, hf⟩ | ⟨hc4, hf⟩
      · refine xs_icmp_ge (tgt := 47) d57_21 (by decide) (fun _ => ?_) (fun hn => absurd hc4 hn)
        exact f_Tape_put_b47_ok hD hf K1 K0
      · refine xs_icmp_ge (tgt := 47) d57_21 (by decide) (fun hp => absurd hp hc4) (fun _ => ?_)
        refine xs_aload_n d57_24 rfl ?_
        refine xe_getc (j := 0) d57_25 ky57 fl0 fk7_0 rfl ?_
        refine xs_aload_n d57_28 rfl ?_
        refine xe_geti d57_29 ky57 fl6 fk7_6 ?_
        refine xs_iload_n d57_32 rfl ?_
        refine xs_iload_n d57_33 rfl ?_
        refine xs_ishr d57_34 ?_
        refine xs_i2b d57_35 ?_
        obtain ⟨hin5, hf⟩ := lk_g hf
        obtain ⟨h6, eh6, hf⟩ := lk_let hf
        refine xe_bast d57_36 (by decide) ak33 hin5  eh6 ?_
        refine xs_aload_n d57_37 rfl ?_
        refine xs_dup d57_38 rfl ?_
        refine xe_geti d57_39 ky57 fl6 fk7_6 ?_
        refine xs_iconst (v := 1) d57_42 (by decide) ?_
        refine xs_iadd d57_43 ?_
        obtain ⟨h7, eh7, hf⟩ := lk_let hf
        refine xe_puti d57_44 ky57 fl6 fk7_6 ft7_6 eh7 ?_
        exact f_Tape_put_b47_ok hD hf K1 K0
noncomputable def f_Tape_put_l3 (v1 : Int32) (v2 : Int32) (h : xH) : Option xH :=
  whl (fun s => f_Tape_put_s3 v1 s.1 s.2) (v2, h)
theorem f_Tape_put_l3_ok {g : xG} {l : Launch} {d : Nat} {v1 : Int32} {v2 : Int32} {h : xH} {o : xH} {R : Option xV} {H' : xH} (hD : 0 ≤ d) (hf : f_Tape_put_l3 v1 v2 h = some o) (K0 : ∀ (h1 : xH), o = h1 → R = none ∧ H' = h1) : xEv g l d 57 3 [(0, xr 7 (some 0)), (1, xi v1), (2, xi v2)] [] h R H' := by
  obtain ⟨n, hn⟩ := whl_iff.mp hf
  clear hf
  induction n generalizing v2 h with
  | zero => cases hn
  | succ n ih =>
    obtain ⟨o2, hs, hn⟩ := lk_b (show (f_Tape_put_s3 v1 v2 h).bind (fun o => Sum.elim (itn _ n) some o) = some o from hn)
    exact f_Tape_put_s3_ok hD hs (fun u0 u1 e => ih (by rw [e] at hn; exact hn)) (fun u0 e => K0 u0 (by rw [e] at hn; exact (Option.some.inj hn).symm))
noncomputable def f_Tape_put_e (v1 : Int32) (h : xH) : Option xH :=
  f_Tape_put_l3 v1 (24 : Int32) h
set_option maxHeartbeats 4000000 in
set_option maxRecDepth 100000 in
theorem f_Tape_put_e_ok {g : xG} {l : Launch} {d : Nat} {v1 : Int32} {h : xH} {o : xH} {R : Option xV} {H' : xH} (hD : 0 ≤ d) (hf : f_Tape_put_e v1 h = some o) (K0 : ∀ (h1 : xH), o = h1 → R = none ∧ H' = h1) : xEv g l d 57 0 [(0, xr 7 (some 0)), (1, xi v1)] [] h R H' := by
  unfold f_Tape_put_e at hf
  refine xs_bipush (v := 24) d57_0 (by decide) ?_
  refine xe_istore_n (v := (24 : Int32)) (ls2 := [(0, xr 7 (some 0)), (1, xi v1), (2, xi (24 : Int32))]) d57_2 mx57 (by decide) rfl rfl ?_
  exact f_Tape_put_l3_ok hD hf K0
noncomputable def f_Tape_put (v1 : Int32) (h : xH) : Option xH := f_Tape_put_e v1 h
theorem f_Tape_put_ok {g : xG} {l : Launch} {d : Nat} {v1 : Int32} {h : xH} {h1 : xH} (hD : 0 ≤ d) (hf : f_Tape_put v1 h = some h1) : xC g l d 57 [xr 7 (some 0), xi v1] h none h1 :=
  xC_of (by decide) (Nat.le_of_ble_eq_true rfl) (f_Tape_put_e_ok hD hf (fun _ e => ⟨rfl, e⟩))
theorem d58_0 : decode (xcode 58) 0 = .ok (.iload_n 1, 1) := by decide +kernel
theorem d58_1 : decode (xcode 58) 1 = .ok (.ifCond .lt 31, 3) := by decide +kernel
theorem d58_4 : decode (xcode 58) 4 = .ok (.iload_n 1, 1) := by decide +kernel
theorem d58_5 : decode (xcode 58) 5 = .ok (.aload_n 0, 1) := by decide +kernel
theorem d58_6 : decode (xcode 58) 6 = .ok (.getfield 25, 3) := by decide +kernel
theorem d58_9 : decode (xcode 58) 9 = .ok (.if_icmp .ge 23, 3) := by decide +kernel
theorem d58_12 : decode (xcode 58) 12 = .ok (.iload_n 1, 1) := by decide +kernel
theorem d58_13 : decode (xcode 58) 13 = .ok (.sipush 400, 3) := by decide +kernel
theorem d58_16 : decode (xcode 58) 16 = .ok (.if_icmp .ge 16, 3) := by decide +kernel
theorem d58_19 : decode (xcode 58) 19 = .ok (.aload_n 0, 1) := by decide +kernel
theorem d58_20 : decode (xcode 58) 20 = .ok (.getfield 11, 3) := by decide +kernel
theorem d58_23 : decode (xcode 58) 23 = .ok (.iload_n 1, 1) := by decide +kernel
theorem d58_24 : decode (xcode 58) 24 = .ok (.baload, 1) := by decide +kernel
theorem d58_25 : decode (xcode 58) 25 = .ok (.sipush 255, 3) := by decide +kernel
theorem d58_28 : decode (xcode 58) 28 = .ok (.iand, 1) := by decide +kernel
theorem d58_29 : decode (xcode 58) 29 = .ok (.goto 4, 3) := by decide +kernel
theorem d58_32 : decode (xcode 58) 32 = .ok (.iconst (-1), 1) := by decide +kernel
theorem d58_33 : decode (xcode 58) 33 = .ok (.ireturn, 1) := by decide +kernel
noncomputable def f_Tape_byteAt_e (v1 : Int32) (h : xH) : Option Int32 :=
  if v1 < (0 : Int32) then (
  some ((-1 : Int32))) else (
  if (h.1 7 6 0) ≤ v1 then (
  some ((-1 : Int32))) else (
  if (400 : Int32) ≤ v1 then (
  some ((-1 : Int32))) else (
  if xib v1 400 then (
  some ((h.2.2.2.1 33 0 (v1).toNatClampNeg) &&& (255 : Int32))) else none)))
set_option maxHeartbeats 4000000 in
set_option maxRecDepth 100000 in
theorem f_Tape_byteAt_e_ok {g : xG} {l : Launch} {d : Nat} {v1 : Int32} {h : xH} {o : Int32} {R : Option xV} (hD : 0 ≤ d) (hf : f_Tape_byteAt_e v1 h = some o) (K0 : ∀ (a : Int32), o = a → R = some (xi a)) : xEv g l d 58 0 [(0, xr 7 (some 0)), (1, xi v1)] [] h R h := by
  unfold f_Tape_byteAt_e at hf
  refine xs_iload_n d58_0 rfl ?_
  rcases lk_if hf with ⟨hc1, hf⟩ | ⟨hc1, hf⟩
  · refine xs_if_lt (tgt := 32) d58_1 (by decide) (fun _ => ?_) (fun hn => absurd hc1 hn)
    refine xs_iconst (v := -1) d58_32 (by decide) ?_
    obtain eR := K0 _ (Option.some.inj hf).symm
    subst eR
    exact xs_iret d58_33 rt58
  · refine xs_if_lt (tgt := 32) d58_1 (by decide) (fun hp => absurd hp hc1) (fun _ => ?_)
    refine xs_iload_n d58_4 rfl ?_
    refine xs_aload_n d58_5 rfl ?_
    refine xe_geti d58_6 ky58 fl6 fk7_6 ?_
    rcases lk_if hf with ⟨hc2, hf⟩ | ⟨hc2, hf⟩
    · refine xs_icmp_ge (tgt := 32) d58_9 (by decide) (fun _ => ?_) (fun hn => absurd hc2 hn)
      refine xs_iconst (v := -1) d58_32 (by decide) ?_
      obtain eR := K0 _ (Option.some.inj hf).symm
      subst eR
      exact xs_iret d58_33 rt58
    · refine xs_icmp_ge (tgt := 32) d58_9 (by decide) (fun hp => absurd hp hc2) (fun _ => ?_)
      refine xs_iload_n d58_12 rfl ?_
      refine xs_sipush (v := 400) d58_13 (by decide) ?_
      rcases lk_if hf with ⟨hc3, hf⟩ | ⟨hc3, hf⟩
      · refine xs_icmp_ge (tgt := 32) d58_16 (by decide) (fun _ => ?_) (fun hn => absurd hc3 hn)
        refine xs_iconst (v := -1) d58_32 (by decide) ?_
        obtain eR := K0 _ (Option.some.inj hf).symm
        subst eR
        exact xs_iret d58_33 rt58
      · refine xs_icmp_ge (tgt := 32) d58_16 (by decide) (fun hp => absurd hp hc3) (fun _ => ?_)
        refine xs_aload_n d58_19 rfl ?_
        refine xe_getc (j := 0) d58_20 ky58 fl0 fk7_0 rfl ?_
        refine xs_iload_n d58_23 rfl ?_
        obtain ⟨hin4, hf⟩ := lk_g hf
        refine xe_bald d58_24 (by decide) ak33 hin4 ?_
        refine xs_sipush (v := 255) d58_25 (by decide) ?_
        refine xs_iand d58_28 ?_
        refine xs_goto (tgt := 33) d58_29 (by decide) ?_
        obtain eR := K0 _ (Option.some.inj hf).symm
        subst eR
        exact xs_iret d58_33 rt58
noncomputable def f_Tape_byteAt (v1 : Int32) (h : xH) : Option Int32 := f_Tape_byteAt_e v1 h
theorem f_Tape_byteAt_ok {g : xG} {l : Launch} {d : Nat} {v1 : Int32} {h : xH} {r : Int32} (hD : 0 ≤ d) (hf : f_Tape_byteAt v1 h = some r) : xC g l d 58 [xr 7 (some 0), xi v1] h (some (xi r)) h :=
  xC_of (by decide) (Nat.le_of_ble_eq_true rfl) (f_Tape_byteAt_e_ok hD hf (fun _ e => by rw [e]))
theorem d59_0 : decode (xcode 59) 0 = .ok (.aload_n 0, 1) := by decide +kernel
theorem d59_1 : decode (xcode 59) 1 = .ok (.iload_n 1, 1) := by decide +kernel
theorem d59_2 : decode (xcode 59) 2 = .ok (.invokevirtual 29, 3) := by decide +kernel
theorem d59_5 : decode (xcode 59) 5 = .ok (.bipush 97, 2) := by decide +kernel
theorem d59_7 : decode (xcode 59) 7 = .ok (.if_icmp .lt 17, 3) := by decide +kernel
theorem d59_10 : decode (xcode 59) 10 = .ok (.aload_n 0, 1) := by decide +kernel
theorem d59_11 : decode (xcode 59) 11 = .ok (.iload_n 1, 1) := by decide +kernel
theorem d59_12 : decode (xcode 59) 12 = .ok (.invokevirtual 29, 3) := by decide +kernel
theorem d59_15 : decode (xcode 59) 15 = .ok (.bipush 122, 2) := by decide +kernel
theorem d59_17 : decode (xcode 59) 17 = .ok (.if_icmp .gt 7, 3) := by decide +kernel
theorem d59_20 : decode (xcode 59) 20 = .ok (.iconst 1, 1) := by decide +kernel
theorem d59_21 : decode (xcode 59) 21 = .ok (.goto 4, 3) := by decide +kernel
theorem d59_24 : decode (xcode 59) 24 = .ok (.iconst 0, 1) := by decide +kernel
theorem d59_25 : decode (xcode 59) 25 = .ok (.ireturn, 1) := by decide +kernel
noncomputable def f_Tape_isLetter_e (v1 : Int32) (h : xH) : Option Int32 :=
  (f_Tape_byteAt v1 h).bind fun r1 =>
  if r1 < (97 : Int32) then (
  some ((0 : Int32))) else (
  (f_Tape_byteAt v1 h).bind fun r4 =>
  if (122 : Int32) < r4 then (
  some ((0 : Int32))) else (
  some ((1 : Int32))))
set_option maxHeartbeats 4000000 in
set_option maxRecDepth 100000 in
theorem f_Tape_isLetter_e_ok {g : xG} {l : Launch} {d : Nat} {v1 : Int32} {h : xH} {o : Int32} {R : Option xV} (hD : 1 ≤ d) (hf : f_Tape_isLetter_e v1 h = some o) (K0 : ∀ (a : Int32), o = a → R = some (xi a)) : xEv g l d 59 0 [(0, xr 7 (some 0)), (1, xi v1)] [] h R h := by
  unfold f_Tape_isLetter_e at hf
  refine xs_aload_n d59_0 rfl ?_
  refine xs_iload_n d59_1 rfl ?_
  obtain ⟨r1, hc2, hf⟩ := lk_b hf
  refine xe_callv1 (as := [xi v1]) (st := []) (h2 := h) (d2 := d - 1) d59_2 ky59 ml9 st58 (by decide) cn58 rfl na58 (Nat.le_of_ble_eq_true rfl) (by omega) (f_Tape_byteAt_ok (by omega) hc2) ?_
  refine xs_bipush (v := 97) d59_5 (by decide) ?_
  rcases lk_if hf with ⟨hc3, hf⟩ | ⟨hc3, hf⟩
  · refine xs_icmp_lt (tgt := 24) d59_7 (by decide) (fun _ => ?_) (fun hn => absurd hc3 hn)
    refine xs_iconst (v := 0) d59_24 (by decide) ?_
    obtain eR := K0 _ (Option.some.inj hf).symm
    subst eR
    exact xe_zret d59_25 (Or.inl rfl) rt59
  · refine xs_icmp_lt (tgt := 24) d59_7 (by decide) (fun hp => absurd hp hc3) (fun _ => ?_)
    refine xs_aload_n d59_10 rfl ?_
    refine xs_iload_n d59_11 rfl ?_
    obtain ⟨r4, hc5, hf⟩ := lk_b hf
    refine xe_callv1 (as := [xi v1]) (st := []) (h2 := h) (d2 := d - 1) d59_12 ky59 ml9 st58 (by decide) cn58 rfl na58 (Nat.le_of_ble_eq_true rfl) (by omega) (f_Tape_byteAt_ok (by omega) hc5) ?_
    refine xs_bipush (v := 122) d59_15 (by decide) ?_
    rcases lk_if hf with ⟨hc6, hf⟩ | ⟨hc6, hf⟩
    · refine xs_icmp_gt (tgt := 24) d59_17 (by decide) (fun _ => ?_) (fun hn => absurd hc6 hn)
      refine xs_iconst (v := 0) d59_24 (by decide) ?_
      obtain eR := K0 _ (Option.some.inj hf).symm
      subst eR
      exact xe_zret d59_25 (Or.inl rfl) rt59
    · refine xs_icmp_gt (tgt := 24) d59_17 (by decide) (fun hp => absurd hp hc6) (fun _ => ?_)
      refine xs_iconst (v := 1) d59_20 (by decide) ?_
      refine xs_goto (tgt := 25) d59_21 (by decide) ?_
      obtain eR := K0 _ (Option.some.inj hf).symm
      subst eR
      exact xe_zret d59_25 (Or.inr rfl) rt59
noncomputable def f_Tape_isLetter (v1 : Int32) (h : xH) : Option Int32 := f_Tape_isLetter_e v1 h
theorem f_Tape_isLetter_ok {g : xG} {l : Launch} {d : Nat} {v1 : Int32} {h : xH} {r : Int32} (hD : 1 ≤ d) (hf : f_Tape_isLetter v1 h = some r) : xC g l d 59 [xr 7 (some 0), xi v1] h (some (xi r)) h :=
  xC_of (by decide) (Nat.le_of_ble_eq_true rfl) (f_Tape_isLetter_e_ok hD hf (fun _ e => by rw [e]))
theorem d60_0 : decode (xcode 60) 0 = .ok (.aload_n 0, 1) := by decide +kernel
theorem d60_1 : decode (xcode 60) 1 = .ok (.iload_n 1, 1) := by decide +kernel
theorem d60_2 : decode (xcode 60) 2 = .ok (.invokevirtual 29, 3) := by decide +kernel
theorem d60_5 : decode (xcode 60) 5 = .ok (.bipush 48, 2) := by decide +kernel
theorem d60_7 : decode (xcode 60) 7 = .ok (.if_icmp .lt 17, 3) := by decide +kernel
theorem d60_10 : decode (xcode 60) 10 = .ok (.aload_n 0, 1) := by decide +kernel
theorem d60_11 : decode (xcode 60) 11 = .ok (.iload_n 1, 1) := by decide +kernel
theorem d60_12 : decode (xcode 60) 12 = .ok (.invokevirtual 29, 3) := by decide +kernel
theorem d60_15 : decode (xcode 60) 15 = .ok (.bipush 57, 2) := by decide +kernel
theorem d60_17 : decode (xcode 60) 17 = .ok (.if_icmp .gt 7, 3) := by decide +kernel
theorem d60_20 : decode (xcode 60) 20 = .ok (.iconst 1, 1) := by decide +kernel
theorem d60_21 : decode (xcode 60) 21 = .ok (.goto 4, 3) := by decide +kernel
theorem d60_24 : decode (xcode 60) 24 = .ok (.iconst 0, 1) := by decide +kernel
theorem d60_25 : decode (xcode 60) 25 = .ok (.ireturn, 1) := by decide +kernel
noncomputable def f_Tape_isDigit_e (v1 : Int32) (h : xH) : Option Int32 :=
  (f_Tape_byteAt v1 h).bind fun r1 =>
  if r1 < (48 : Int32) then (
  some ((0 : Int32))) else (
  (f_Tape_byteAt v1 h).bind fun r4 =>
  if (57 : Int32) < r4 then (
  some ((0 : Int32))) else (
  some ((1 : Int32))))
set_option maxHeartbeats 4000000 in
set_option maxRecDepth 100000 in
theorem f_Tape_isDigit_e_ok {g : xG} {l : Launch} {d : Nat} {v1 : Int32} {h : xH} {o : Int32} {R : Option xV} (hD : 1 ≤ d) (hf : f_Tape_isDigit_e v1 h = some o) (K0 : ∀ (a : Int32), o = a → R = some (xi a)) : xEv g l d 60 0 [(0, xr 7 (some 0)), (1, xi v1)] [] h R h := by
  unfold f_Tape_isDigit_e at hf
  refine xs_aload_n d60_0 rfl ?_
  refine xs_iload_n d60_1 rfl ?_
  obtain ⟨r1, hc2, hf⟩ := lk_b hf
  refine xe_callv1 (as := [xi v1]) (st := []) (h2 := h) (d2 := d - 1) d60_2 ky60 ml9 st58 (by decide) cn58 rfl na58 (Nat.le_of_ble_eq_true rfl) (by omega) (f_Tape_byteAt_ok (by omega) hc2) ?_
  refine xs_bipush (v := 48) d60_5 (by decide) ?_
  rcases lk_if hf with ⟨hc3, hf⟩ | ⟨hc3, hf⟩
  · refine xs_icmp_lt (tgt := 24) d60_7 (by decide) (fun _ => ?_) (fun hn => absurd hc3 hn)
    refine xs_iconst (v := 0) d60_24 (by decide) ?_
    obtain eR := K0 _ (Option.some.inj hf).symm
    subst eR
    exact xe_zret d60_25 (Or.inl rfl) rt60
  · refine xs_icmp_lt (tgt := 24) d60_7 (by decide) (fun hp => absurd hp hc3) (fun _ => ?_)
    refine xs_aload_n d60_10 rfl ?_
    refine xs_iload_n d60_11 rfl ?_
    obtain ⟨r4, hc5, hf⟩ := lk_b hf
    refine xe_callv1 (as := [xi v1]) (st := []) (h2 := h) (d2 := d - 1) d60_12 ky60 ml9 st58 (by decide) cn58 rfl na58 (Nat.le_of_ble_eq_true rfl) (by omega) (f_Tape_byteAt_ok (by omega) hc5) ?_
    refine xs_bipush (v := 57) d60_15 (by decide) ?_
    rcases lk_if hf with ⟨hc6, hf⟩ | ⟨hc6, hf⟩
    · refine xs_icmp_gt (tgt := 24) d60_17 (by decide) (fun _ => ?_) (fun hn => absurd hc6 hn)
      refine xs_iconst (v := 0) d60_24 (by decide) ?_
      obtain eR := K0 _ (Option.some.inj hf).symm
      subst eR
      exact xe_zret d60_25 (Or.inl rfl) rt60
    · refine xs_icmp_gt (tgt := 24) d60_17 (by decide) (fun hp => absurd hp hc6) (fun _ => ?_)
      refine xs_iconst (v := 1) d60_20 (by decide) ?_
      refine xs_goto (tgt := 25) d60_21 (by decide) ?_
      obtain eR := K0 _ (Option.some.inj hf).symm
      subst eR
      exact xe_zret d60_25 (Or.inr rfl) rt60
noncomputable def f_Tape_isDigit (v1 : Int32) (h : xH) : Option Int32 := f_Tape_isDigit_e v1 h
theorem f_Tape_isDigit_ok {g : xG} {l : Launch} {d : Nat} {v1 : Int32} {h : xH} {r : Int32} (hD : 1 ≤ d) (hf : f_Tape_isDigit v1 h = some r) : xC g l d 60 [xr 7 (some 0), xi v1] h (some (xi r)) h :=
  xC_of (by decide) (Nat.le_of_ble_eq_true rfl) (f_Tape_isDigit_e_ok hD hf (fun _ e => by rw [e]))
theorem d63_0 : decode (xcode 63) 0 = .ok (.aload_n 0, 1) := by decide +kernel
theorem d63_1 : decode (xcode 63) 1 = .ok (.iload_n 1, 1) := by decide +kernel
theorem d63_2 : decode (xcode 63) 2 = .ok (.invokevirtual 29, 3) := by decide +kernel
theorem d63_5 : decode (xcode 63) 5 = .ok (.bipush 60, 2) := by decide +kernel
theorem d63_7 : decode (xcode 63) 7 = .ok (.if_icmp .eq 13, 3) := by decide +kernel
theorem d63_10 : decode (xcode 63) 10 = .ok (.aload_n 0, 1) := by decide +kernel
theorem d63_11 : decode (xcode 63) 11 = .ok (.iload_n 1, 1) := by decide +kernel
theorem d63_12 : decode (xcode 63) 12 = .ok (.invokevirtual 29, 3) := by decide +kernel
theorem d63_15 : decode (xcode 63) 15 = .ok (.bipush 62, 2) := by decide +kernel
theorem d63_17 : decode (xcode 63) 17 = .ok (.if_icmp .ne 19, 3) := by decide +kernel
theorem d63_20 : decode (xcode 63) 20 = .ok (.aload_n 0, 1) := by decide +kernel
theorem d63_21 : decode (xcode 63) 21 = .ok (.iload_n 1, 1) := by decide +kernel
theorem d63_22 : decode (xcode 63) 22 = .ok (.iconst 1, 1) := by decide +kernel
theorem d63_23 : decode (xcode 63) 23 = .ok (.iadd, 1) := by decide +kernel
theorem d63_24 : decode (xcode 63) 24 = .ok (.invokevirtual 29, 3) := by decide +kernel
theorem d63_27 : decode (xcode 63) 27 = .ok (.bipush 61, 2) := by decide +kernel
theorem d63_29 : decode (xcode 63) 29 = .ok (.if_icmp .ne 7, 3) := by decide +kernel
theorem d63_32 : decode (xcode 63) 32 = .ok (.iconst 1, 1) := by decide +kernel
theorem d63_33 : decode (xcode 63) 33 = .ok (.goto 4, 3) := by decide +kernel
theorem d63_36 : decode (xcode 63) 36 = .ok (.iconst 0, 1) := by decide +kernel
theorem d63_37 : decode (xcode 63) 37 = .ok (.ireturn, 1) := by decide +kernel
noncomputable def f_Tape_isWithEqual_b20 (v1 : Int32) (h : xH) : Option Int32 :=
  (f_Tape_byteAt (v1 + (1 : Int32)) h).bind fun r4 =>
  if r4 = (61 : Int32) then (
  some ((1 : Int32))) else (
  some ((0 : Int32)))
set_option maxHeartbeats 4000000 in
set_option maxRecDepth 100000 in
theorem f_Tape_isWithEqual_b20_ok {g : xG} {l : Launch} {d : Nat} {v1 : Int32} {h : xH} {o : Int32} {R : Option xV} (hD : 1 ≤ d) (hf : f_Tape_isWithEqual_b20 v1 h = some o) (K0 : ∀ (a : Int32), o = a → R = some (xi a)) : xEv g l d 63 20 [(0, xr 7 (some 0)), (1, xi v1)] [] h R h := by
  unfold f_Tape_isWithEqual_b20 at hf
  refine xs_aload_n d63_20 rfl ?_
  refine xs_iload_n d63_21 rfl ?_
  refine xs_iconst (v := 1) d63_22 (by decide) ?_
  refine xs_iadd d63_23 ?_
  obtain ⟨r4, hc5, hf⟩ := lk_b hf
  refine xe_callv1 (as := [xi (v1 + (1 : Int32))]) (st := []) (h2 := h) (d2 := d - 1) d63_24 ky63 ml9 st58 (by decide) cn58 rfl na58 (Nat.le_of_ble_eq_true rfl) (by omega) (f_Tape_byteAt_ok (by omega) hc5) ?_
  refine xs_bipush (v := 61) d63_27 (by decide) ?_
  rcases lk_if hf with ⟨hc6, hf⟩ | ⟨hc6, hf⟩
  · refine xs_icmp_ne (tgt := 36) d63_29 (by decide) (fun _ => ?_) (fun hn => absurd hc6 hn)
    refine xs_iconst (v := 1) d63_32 (by decide) ?_
    refine xs_goto (tgt := 37) d63_33 (by decide) ?_
    obtain eR := K0 _ (Option.some.inj hf).symm
    subst eR
    exact xe_zret d63_37 (Or.inr rfl) rt63
  · refine xs_icmp_ne (tgt := 36) d63_29 (by decide) (fun hp => absurd hp hc6) (fun _ => ?_)
    refine xs_iconst (v := 0) d63_36 (by decide) ?_
    obtain eR := K0 _ (Option.some.inj hf).symm
    subst eR
    exact xe_zret d63_37 (Or.inl rfl) rt63
noncomputable def f_Tape_isWithEqual_e (v1 : Int32) (h : xH) : Option Int32 :=
  (f_Tape_byteAt v1 h).bind fun r1 =>
  if r1 = (60 : Int32) then (
  f_Tape_isWithEqual_b20 v1 h) else (
  (f_Tape_byteAt v1 h).bind fun r7 =>
  if r7 = (62 : Int32) then (
  f_Tape_isWithEqual_b20 v1 h) else (
  some ((0 : Int32))))
set_option maxHeartbeats 4000000 in
set_option maxRecDepth 100000 in
theorem f_Tape_isWithEqual_e_ok {g : xG} {l : Launch} {d : Nat} {v1 : Int32} {h : xH} {o : Int32} {R : Option xV} (hD : 1 ≤ d) (hf : f_Tape_isWithEqual_e v1 h = some o) (K0 : ∀ (a : Int32), o = a → R = some (xi a)) : xEv g l d 63 0 [(0, xr 7 (some 0)), (1, xi v1)] [] h R h := by
  unfold f_Tape_isWithEqual_e at hf
  refine xs_aload_n d63_0 rfl ?_
  refine xs_iload_n d63_1 rfl ?_
  obtain ⟨r1, hc2, hf⟩ := lk_b hf
  refine xe_callv1 (as := [xi v1]) (st := []) (h2 := h) (d2 := d - 1) d63_2 ky63 ml9 st58 (by decide) cn58 rfl na58 (Nat.le_of_ble_eq_true rfl) (by omega) (f_Tape_byteAt_ok (by omega) hc2) ?_
  refine xs_bipush (v := 60) d63_5 (by decide) ?_
  rcases lk_if hf with ⟨hc3, hf⟩ | ⟨hc3, hf⟩
  · refine xs_icmp_eq (tgt := 20) d63_7 (by decide) (fun _ => ?_) (fun hn => absurd hc3 hn)
    exact f_Tape_isWithEqual_b20_ok hD hf K0
  · refine xs_icmp_eq (tgt := 20) d63_7 (by decide) (fun hp => absurd hp hc3) (fun _ => ?_)
    refine xs_aload_n d63_10 rfl ?_
    refine xs_iload_n d63_11 rfl ?_
    obtain ⟨r7, hc8, hf⟩ := lk_b hf
    refine xe_callv1 (as := [xi v1]) (st := []) (h2 := h) (d2 := d - 1) d63_12 ky63 ml9 st58 (by decide) cn58 rfl na58 (Nat.le_of_ble_eq_true rfl) (by omega) (f_Tape_byteAt_ok (by omega) hc8) ?_
    refine xs_bipush (v := 62) d63_15 (by decide) ?_
    rcases lk_if hf with ⟨hc9, hf⟩ | ⟨hc9, hf⟩
    · refine xs_icmp_ne (tgt := 36) d63_17 (by decide) (fun _ => ?_) (fun hn => absurd hc9 hn)
      exact f_Tape_isWithEqual_b20_ok hD hf K0
    · refine xs_icmp_ne (tgt := 36) d63_17 (by decide) (fun hp => absurd hp hc9) (fun _ => ?_)
      refine xs_iconst (v := 0) d63_36 (by decide) ?_
      obtain eR := K0 _ (Option.some.inj hf).symm
      subst eR
      exact xe_zret d63_37 (Or.inl rfl) rt63
noncomputable def f_Tape_isWithEqual (v1 : Int32) (h : xH) : Option Int32 := f_Tape_isWithEqual_e v1 h
theorem f_Tape_isWithEqual_ok {g : xG} {l : Launch} {d : Nat} {v1 : Int32} {h : xH} {r : Int32} (hD : 1 ≤ d) (hf : f_Tape_isWithEqual v1 h = some r) : xC g l d 63 [xr 7 (some 0), xi v1] h (some (xi r)) h :=
  xC_of (by decide) (Nat.le_of_ble_eq_true rfl) (f_Tape_isWithEqual_e_ok hD hf (fun _ e => by rw [e]))
theorem d64_0 : decode (xcode 64) 0 = .ok (.aload_n 0, 1) := by decide +kernel
theorem d64_1 : decode (xcode 64) 1 = .ok (.getfield 36, 3) := by decide +kernel
theorem d64_4 : decode (xcode 64) 4 = .ok (.ifCond .lt 53, 3) := by decide +kernel
theorem d64_7 : decode (xcode 64) 7 = .ok (.aload_n 0, 1) := by decide +kernel
theorem d64_8 : decode (xcode 64) 8 = .ok (.getfield 36, 3) := by decide +kernel
theorem d64_11 : decode (xcode 64) 11 = .ok (.sipush 400, 3) := by decide +kernel
theorem d64_14 : decode (xcode 64) 14 = .ok (.if_icmp .gt 43, 3) := by decide +kernel
theorem d64_17 : decode (xcode 64) 17 = .ok (.aload_n 0, 1) := by decide +kernel
theorem d64_18 : decode (xcode 64) 18 = .ok (.getfield 15, 3) := by decide +kernel
theorem d64_21 : decode (xcode 64) 21 = .ok (.aload_n 0, 1) := by decide +kernel
theorem d64_22 : decode (xcode 64) 22 = .ok (.getfield 36, 3) := by decide +kernel
theorem d64_25 : decode (xcode 64) 25 = .ok (.iload_n 1, 1) := by decide +kernel
theorem d64_26 : decode (xcode 64) 26 = .ok (.iastore, 1) := by decide +kernel
theorem d64_27 : decode (xcode 64) 27 = .ok (.aload_n 0, 1) := by decide +kernel
theorem d64_28 : decode (xcode 64) 28 = .ok (.getfield 19, 3) := by decide +kernel
theorem d64_31 : decode (xcode 64) 31 = .ok (.aload_n 0, 1) := by decide +kernel
theorem d64_32 : decode (xcode 64) 32 = .ok (.getfield 36, 3) := by decide +kernel
theorem d64_35 : decode (xcode 64) 35 = .ok (.iload_n 2, 1) := by decide +kernel
theorem d64_36 : decode (xcode 64) 36 = .ok (.iastore, 1) := by decide +kernel
theorem d64_37 : decode (xcode 64) 37 = .ok (.aload_n 0, 1) := by decide +kernel
theorem d64_38 : decode (xcode 64) 38 = .ok (.getfield 22, 3) := by decide +kernel
theorem d64_41 : decode (xcode 64) 41 = .ok (.aload_n 0, 1) := by decide +kernel
theorem d64_42 : decode (xcode 64) 42 = .ok (.getfield 36, 3) := by decide +kernel
theorem d64_45 : decode (xcode 64) 45 = .ok (.iload_n 3, 1) := by decide +kernel
theorem d64_46 : decode (xcode 64) 46 = .ok (.iastore, 1) := by decide +kernel
theorem d64_47 : decode (xcode 64) 47 = .ok (.aload_n 0, 1) := by decide +kernel
theorem d64_48 : decode (xcode 64) 48 = .ok (.dup, 1) := by decide +kernel
theorem d64_49 : decode (xcode 64) 49 = .ok (.getfield 36, 3) := by decide +kernel
theorem d64_52 : decode (xcode 64) 52 = .ok (.iconst 1, 1) := by decide +kernel
theorem d64_53 : decode (xcode 64) 53 = .ok (.iadd, 1) := by decide +kernel
theorem d64_54 : decode (xcode 64) 54 = .ok (.putfield 36, 3) := by decide +kernel
theorem d64_57 : decode (xcode 64) 57 = .ok (.return_, 1) := by decide +kernel
noncomputable def f_Tape_addPiece_e (v1 : Int32) (v2 : Int32) (v3 : Int32) (h : xH) : Option xH :=
  if (h.1 7 4 0) < (0 : Int32) then (
  some (h)) else (
  if (400 : Int32) < (h.1 7 4 0) then (
  some (h)) else (
  if xib (h.1 7 4 0) 401 then (
  xlet (xsA h 34 0 (upd (h.2.2.2.1 34 0) (h.1 7 4 0).toNatClampNeg v1)) fun h4 =>
  if xib (h4.1 7 4 0) 401 then (
  xlet (xsA h4 35 0 (upd (h4.2.2.2.1 35 0) (h4.1 7 4 0).toNatClampNeg v2)) fun h6 =>
  if xib (h6.1 7 4 0) 401 then (
  xlet (xsA h6 36 0 (upd (h6.2.2.2.1 36 0) (h6.1 7 4 0).toNatClampNeg v3)) fun h8 =>
  xlet (xsI h8 7 4 0 ((h8.1 7 4 0) + (1 : Int32))) fun h9 =>
  some (h9)) else none) else none) else none))
set_option maxHeartbeats 4000000 in
set_option maxRecDepth 100000 in
theorem f_Tape_addPiece_e_ok {g : xG} {l : Launch} {d : Nat} {v1 : Int32} {v2 : Int32} {v3 : Int32} {h : xH} {o : xH} {R : Option xV} {H' : xH} (hD : 0 ≤ d) (hf : f_Tape_addPiece_e v1 v2 v3 h = some o) (K0 : ∀ (h1 : xH), o = h1 → R = none ∧ H' = h1) : xEv g l d 64 0 [(0, xr 7 (some 0)), (1, xi v1), (2, xi v2), (3, xi v3)] [] h R H' := by
  unfold f_Tape_addPiece_e at hf
  refine xs_aload_n d64_0 rfl ?_
  refine xe_geti d64_1 ky64 fl4 fk7_4 ?_
  rcases lk_if hf with ⟨hc1, hf⟩ | ⟨hc1, hf⟩
  · refine xs_if_lt (tgt := 57) d64_4 (by decide) (fun _ => ?_) (fun hn => absurd hc1 hn)
    obtain ⟨eR, eH⟩ := K0 _ (Option.some.inj hf).symm
    subst eR; subst eH
    exact xs_vret d64_57 rt64
  · refine xs_if_lt (tgt := 57) d64_4 (by decide) (fun hp => absurd hp hc1) (fun _ => ?_)
    refine xs_aload_n d64_7 rfl ?_
    refine xe_geti d64_8 ky64 fl4 fk7_4 ?_
    refine xs_sipush (v := 400) d64_11 (by decide) ?_
    rcases lk_if hf with ⟨hc2, hf⟩ | ⟨hc2, hf⟩
    · refine xs_icmp_gt (tgt := 57) d64_14 (by decide) (fun _ => ?_) (fun hn => absurd hc2 hn)
      obtain ⟨eR, eH⟩ := K0 _ (Option.some.inj hf).symm
      subst eR; subst eH
      exact xs_vret d64_57 rt64
    · refine xs_icmp_gt (tgt := 57) d64_14 (by decide) (fun hp => absurd hp hc2) (fun _ => ?_)
      refine xs_aload_n d64_17 rfl ?_
      refine xe_getc (j := 0) d64_18 ky64 fl1 fk7_1 rfl ?_
      refine xs_aload_n d64_21 rfl ?_
      refine xe_geti d64_22 ky64 fl4 fk7_4 ?_
      refine xs_iload_n d64_25 rfl ?_
      obtain ⟨hin3, hf⟩ := lk_g hf
      obtain ⟨h4, eh4, hf⟩ := lk_let hf
      refine xe_iast d64_26 (by decide) ak34 hin3  eh4 ?_
      refine xs_aload_n d64_27 rfl ?_
      refine xe_getc (j := 0) d64_28 ky64 fl2 fk7_2 rfl ?_
      refine xs_aload_n d64_31 rfl ?_
      refine xe_geti d64_32 ky64 fl4 fk7_4 ?_
      refine xs_iload_n d64_35 rfl ?_
      obtain ⟨hin5, hf⟩ := lk_g hf
      obtain ⟨h6, eh6, hf⟩ := lk_let hf
      refine xe_iast d64_36 (by decide) ak35 hin5  eh6 ?_
      refine xs_aload_n d64_37 rfl ?_
      refine xe_getc (j := 0) d64_38 ky64 fl3 fk7_3 rfl ?_
      refine xs_aload_n d64_41 rfl ?_
      refine xe_geti d64_42 ky64 fl4 fk7_4 ?_
      refine xs_iload_n d64_45 rfl ?_
      obtain ⟨hin7, hf⟩ := lk_g hf
      obtain ⟨h8, eh8, hf⟩ := lk_let hf
      refine xe_iast d64_46 (by decide) ak36 hin7  eh8 ?_
      refine xs_aload_n d64_47 rfl ?_
      refine xs_dup d64_48 rfl ?_
      refine xe_geti d64_49 ky64 fl4 fk7_4 ?_
      refine xs_iconst (v := 1) d64_52 (by decide) ?_
      refine xs_iadd d64_53 ?_
      obtain ⟨h9, eh9, hf⟩ := lk_let hf
      refine xe_puti d64_54 ky64 fl4 fk7_4 ft7_4 eh9 ?_
      obtain ⟨eR, eH⟩ := K0 _ (Option.some.inj hf).symm
      subst eR; subst eH
      exact xs_vret d64_57 rt64
noncomputable def f_Tape_addPiece (v1 : Int32) (v2 : Int32) (v3 : Int32) (h : xH) : Option xH := f_Tape_addPiece_e v1 v2 v3 h
theorem f_Tape_addPiece_ok {g : xG} {l : Launch} {d : Nat} {v1 : Int32} {v2 : Int32} {v3 : Int32} {h : xH} {h1 : xH} (hD : 0 ≤ d) (hf : f_Tape_addPiece v1 v2 v3 h = some h1) : xC g l d 64 [xr 7 (some 0), xi v1, xi v2, xi v3] h none h1 :=
  xC_of (by decide) (Nat.le_of_ble_eq_true rfl) (f_Tape_addPiece_e_ok hD hf (fun _ e => ⟨rfl, e⟩))
theorem d65_0 : decode (xcode 65) 0 = .ok (.iload_n 2, 1) := by decide +kernel
theorem d65_1 : decode (xcode 65) 1 = .ok (.iload_n 1, 1) := by decide +kernel
theorem d65_2 : decode (xcode 65) 2 = .ok (.isub, 1) := by decide +kernel
theorem d65_3 : decode (xcode 65) 3 = .ok (.iconst 5, 1) := by decide +kernel
theorem d65_4 : decode (xcode 65) 4 = .ok (.if_icmp .le 5, 3) := by decide +kernel
theorem d65_7 : decode (xcode 65) 7 = .ok (.iconst (-1), 1) := by decide +kernel
theorem d65_8 : decode (xcode 65) 8 = .ok (.ireturn, 1) := by decide +kernel
theorem d65_9 : decode (xcode 65) 9 = .ok (.iconst 0, 1) := by decide +kernel
theorem d65_10 : decode (xcode 65) 10 = .ok (.istore_n 3, 1) := by decide +kernel
theorem d65_11 : decode (xcode 65) 11 = .ok (.iload_n 1, 1) := by decide +kernel
theorem d65_12 : decode (xcode 65) 12 = .ok (.istore 4, 2) := by decide +kernel
theorem d65_14 : decode (xcode 65) 14 = .ok (.iload 4, 2) := by decide +kernel
theorem d65_16 : decode (xcode 65) 16 = .ok (.iload_n 2, 1) := by decide +kernel
theorem d65_17 : decode (xcode 65) 17 = .ok (.if_icmp .ge 24, 3) := by decide +kernel
theorem d65_20 : decode (xcode 65) 20 = .ok (.iload_n 3, 1) := by decide +kernel
theorem d65_21 : decode (xcode 65) 21 = .ok (.bipush 10, 2) := by decide +kernel
theorem d65_23 : decode (xcode 65) 23 = .ok (.imul, 1) := by decide +kernel
theorem d65_24 : decode (xcode 65) 24 = .ok (.aload_n 0, 1) := by decide +kernel
theorem d65_25 : decode (xcode 65) 25 = .ok (.iload 4, 2) := by decide +kernel
theorem d65_27 : decode (xcode 65) 27 = .ok (.invokevirtual 29, 3) := by decide +kernel
theorem d65_30 : decode (xcode 65) 30 = .ok (.iadd, 1) := by decide +kernel
theorem d65_31 : decode (xcode 65) 31 = .ok (.bipush 48, 2) := by decide +kernel
theorem d65_33 : decode (xcode 65) 33 = .ok (.isub, 1) := by decide +kernel
theorem d65_34 : decode (xcode 65) 34 = .ok (.istore_n 3, 1) := by decide +kernel
theorem d65_35 : decode (xcode 65) 35 = .ok (.iinc 4 1, 3) := by decide +kernel
theorem d65_38 : decode (xcode 65) 38 = .ok (.goto (-24), 3) := by decide +kernel
theorem d65_41 : decode (xcode 65) 41 = .ok (.iload_n 3, 1) := by decide +kernel
theorem d65_42 : decode (xcode 65) 42 = .ok (.ireturn, 1) := by decide +kernel
noncomputable def f_Tape_numberAt_s14 (v2 : Int32) (v3 : Int32) (v4 : Int32) (h : xH) : Option ((Int32 × Int32) ⊕ Int32) :=
  if v2 ≤ v4 then (
  some (Sum.inr (v3))) else (
  (f_Tape_byteAt v4 h).bind fun r3 =>
  xlet (((v3 * (10 : Int32)) + r3) - (48 : Int32)) fun v3_5 =>
  xlet (v4 + (1 : Int32)) fun v4_6 =>
  some (Sum.inl (v3_5, v4_6)))
set_option maxHeartbeats 4000000 in
set_option maxRecDepth 100000 in
theorem f_Tape_numberAt_s14_ok {g : xG} {l : Launch} {d : Nat} {v2 : Int32} {v3 : Int32} {v4 : Int32} {h : xH} {o : ((Int32 × Int32) ⊕ Int32)} {R : Option xV} (hD : 1 ≤ d) (hf : f_Tape_numberAt_s14 v2 v3 v4 h = some o) (K1 : ∀ (w3 : Int32) (w4 : Int32), o = Sum.inl (w3, w4) → xEv g l d 65 14 [(0, xr 7 (some 0)), (2, xi v2), (3, xi w3), (4, xi w4)] [] h R h) (K0 : ∀ (a : Int32), o = Sum.inr (a) → R = some (xi a)) : xEv g l d 65 14 [(0, xr 7 (some 0)), (2, xi v2), (3, xi v3), (4, xi v4)] [] h R h := by
  unfold f_Tape_numberAt_s14 at hf
  refine xs_iload d65_14 rfl ?_
  refine xs_iload_n d65_16 rfl ?_
  rcases lk_if hf with ⟨hc2, hf⟩ | ⟨hc2, hf⟩
  · refine xs_icmp_ge (tgt := 41) d65_17 (by decide) (fun _ => ?_) (fun hn => absurd hc2 hn)
    refine xs_iload_n d65_41 rfl ?_
    obtain eR := K0 _ (Option.some.inj hf).symm
    subst eR
    exact xs_iret d65_42 rt65
  · refine xs_icmp_ge (tgt := 41) d65_17 (by decide) (fun hp => absurd hp hc2) (fun _ => ?_)
    refine xs_iload_n d65_20 rfl ?_
    refine xs_bipush (v := 10) d65_21 (by decide) ?_
    refine xs_imul d65_23 ?_
    refine xs_aload_n d65_24 rfl ?_
    refine xs_iload d65_25 rfl ?_
    obtain ⟨r3, hc4, hf⟩ := lk_b hf
    refine xe_callv1 (as := [xi v4]) (st := [xi (v3 * (10 : Int32))]) (h2 := h) (d2 := d - 1) d65_27 ky65 ml9 st58 (by decide) cn58 rfl na58 (Nat.le_of_ble_eq_true rfl) (by omega) (f_Tape_byteAt_ok (by omega) hc4) ?_
    refine xs_iadd d65_30 ?_
    refine xs_bipush (v := 48) d65_31 (by decide) ?_
    refine xs_isub d65_33 ?_
    obtain ⟨v3_5, ev3_5, hf⟩ := lk_let hf
    refine xe_istore_n (v := v3_5) (ls2 := [(0, xr 7 (some 0)), (2, xi v2), (3, xi v3_5), (4, xi v4)]) d65_34 mx65 (by decide) ev3_5 rfl ?_
    obtain ⟨v4_6, ev4_6, hf⟩ := lk_let hf
    refine xe_iinc (v := v4_6) (b := 1) (ls2 := [(0, xr 7 (some 0)), (2, xi v2), (3, xi v3_5), (4, xi v4_6)]) d65_35 mx65 (by decide) rfl (by decide) ev4_6 rfl ?_
    refine xs_goto (tgt := 14) d65_38 (by decide) ?_
    exact K1 _ _ (Option.some.inj hf).symm
noncomputable def f_Tape_numberAt_l14 (v2 : Int32) (v3 : Int32) (v4 : Int32) (h : xH) : Option Int32 :=
  whl (fun s => f_Tape_numberAt_s14 v2 s.1 s.2 h) (v3, v4)
theorem f_Tape_numberAt_l14_ok {g : xG} {l : Launch} {d : Nat} {v2 : Int32} {v3 : Int32} {v4 : Int32} {h : xH} {o : Int32} {R : Option xV} (hD : 1 ≤ d) (hf : f_Tape_numberAt_l14 v2 v3 v4 h = some o) (K0 : ∀ (a : Int32), o = a → R = some (xi a)) : xEv g l d 65 14 [(0, xr 7 (some 0)), (2, xi v2), (3, xi v3), (4, xi v4)] [] h R h := by
  obtain ⟨n, hn⟩ := whl_iff.mp hf
  clear hf
  induction n generalizing v3 v4 with
  | zero => cases hn
  | succ n ih =>
    obtain ⟨o2, hs, hn⟩ := lk_b (show (f_Tape_numberAt_s14 v2 v3 v4 h).bind (fun o => Sum.elim (itn _ n) some o) = some o from hn)
    exact f_Tape_numberAt_s14_ok hD hs (fun u0 u1 e => ih (by rw [e] at hn; exact hn)) (fun u0 e => K0 u0 (by rw [e] at hn; exact (Option.some.inj hn).symm))
noncomputable def f_Tape_numberAt_e (v1 : Int32) (v2 : Int32) (h : xH) : Option Int32 :=
  if (v2 - v1) ≤ (5 : Int32) then (
  f_Tape_numberAt_l14 v2 (0 : Int32) v1 h) else (
  some ((-1 : Int32)))
set_option maxHeartbeats 4000000 in
set_option maxRecDepth 100000 in
theorem f_Tape_numberAt_e_ok {g : xG} {l : Launch} {d : Nat} {v1 : Int32} {v2 : Int32} {h : xH} {o : Int32} {R : Option xV} (hD : 1 ≤ d) (hf : f_Tape_numberAt_e v1 v2 h = some o) (K0 : ∀ (a : Int32), o = a → R = some (xi a)) : xEv g l d 65 0 [(0, xr 7 (some 0)), (1, xi v1), (2, xi v2)] [] h R h := by
  unfold f_Tape_numberAt_e at hf
  refine xs_iload_n d65_0 rfl ?_
  refine xs_iload_n d65_1 rfl ?_
  refine xs_isub d65_2 ?_
  refine xs_iconst (v := 5) d65_3 (by decide) ?_
  rcases lk_if hf with ⟨hc1, hf⟩ | ⟨hc1, hf⟩
  · refine xs_icmp_le (tgt := 9) d65_4 (by decide) (fun _ => ?_) (fun hn => absurd hc1 hn)
    refine xs_iconst (v := 0) d65_9 (by decide) ?_
    refine xe_istore_n (v := (0 : Int32)) (ls2 := [(0, xr 7 (some 0)), (1, xi v1), (2, xi v2), (3, xi (0 : Int32))]) d65_10 mx65 (by decide) rfl rfl ?_
    refine xs_iload_n d65_11 rfl ?_
    refine xe_istore (v := v1) (ls2 := [(0, xr 7 (some 0)), (1, xi v1), (2, xi v2), (3, xi (0 : Int32)), (4, xi v1)]) d65_12 mx65 (by decide) rfl rfl ?_
    refine xs_pick [0, 2, 3, 4] rfl ?_
    exact f_Tape_numberAt_l14_ok hD hf K0
  · refine xs_icmp_le (tgt := 9) d65_4 (by decide) (fun hp => absurd hp hc1) (fun _ => ?_)
    refine xs_iconst (v := -1) d65_7 (by decide) ?_
    obtain eR := K0 _ (Option.some.inj hf).symm
    subst eR
    exact xs_iret d65_8 rt65
noncomputable def f_Tape_numberAt (v1 : Int32) (v2 : Int32) (h : xH) : Option Int32 := f_Tape_numberAt_e v1 v2 h
theorem f_Tape_numberAt_ok {g : xG} {l : Launch} {d : Nat} {v1 : Int32} {v2 : Int32} {h : xH} {r : Int32} (hD : 1 ≤ d) (hf : f_Tape_numberAt v1 v2 h = some r) : xC g l d 65 [xr 7 (some 0), xi v1, xi v2] h (some (xi r)) h :=
  xC_of (by decide) (Nat.le_of_ble_eq_true rfl) (f_Tape_numberAt_e_ok hD hf (fun _ e => by rw [e]))
theorem d73_0 : decode (xcode 73) 0 = .ok (.aload_n 0, 1) := by decide +kernel
theorem d73_1 : decode (xcode 73) 1 = .ok (.invokevirtual 90, 3) := by decide +kernel
theorem d73_4 : decode (xcode 73) 4 = .ok (.ifCond .ne 5, 3) := by decide +kernel
theorem d73_7 : decode (xcode 73) 7 = .ok (.iconst 0, 1) := by decide +kernel
theorem d73_8 : decode (xcode 73) 8 = .ok (.ireturn, 1) := by decide +kernel
theorem d73_9 : decode (xcode 73) 9 = .ok (.aload_n 0, 1) := by decide +kernel
theorem d73_10 : decode (xcode 73) 10 = .ok (.bipush 59, 2) := by decide +kernel
theorem d73_12 : decode (xcode 73) 12 = .ok (.invokevirtual 94, 3) := by decide +kernel
theorem d73_15 : decode (xcode 73) 15 = .ok (.ifCond .eq 9, 3) := by decide +kernel
theorem d73_18 : decode (xcode 73) 18 = .ok (.aload_n 0, 1) := by decide +kernel
theorem d73_19 : decode (xcode 73) 19 = .ok (.invokevirtual 45, 3) := by decide +kernel
theorem d73_22 : decode (xcode 73) 22 = .ok (.iconst 1, 1) := by decide +kernel
theorem d73_23 : decode (xcode 73) 23 = .ok (.ireturn, 1) := by decide +kernel
theorem d73_24 : decode (xcode 73) 24 = .ok (.aload_n 0, 1) := by decide +kernel
theorem d73_25 : decode (xcode 73) 25 = .ok (.getfield 84, 3) := by decide +kernel
theorem d73_28 : decode (xcode 73) 28 = .ok (.ifCond .eq 8, 3) := by decide +kernel
theorem d73_31 : decode (xcode 73) 31 = .ok (.aload_n 0, 1) := by decide +kernel
theorem d73_32 : decode (xcode 73) 32 = .ok (.iconst 0, 1) := by decide +kernel
theorem d73_33 : decode (xcode 73) 33 = .ok (.invokevirtual 97, 3) := by decide +kernel
theorem d73_36 : decode (xcode 73) 36 = .ok (.iconst 0, 1) := by decide +kernel
theorem d73_37 : decode (xcode 73) 37 = .ok (.ireturn, 1) := by decide +kernel
noncomputable def f_Tape_goToClause_e (h : xH) : Option (Int32 × xH) :=
  (f_Tape_isWell h).bind fun r1 =>
  if r1 = (0 : Int32) then (
  some (((0 : Int32), h))) else (
  (f_Tape_isSign (59 : Int32) h).bind fun r4 =>
  if r4 = (0 : Int32) then (
  if (h.1 7 7 0) = (0 : Int32) then (
  some (((0 : Int32), h))) else (
  (f_Tape_fail (0 : Int32) h).bind fun h10 =>
  some (((0 : Int32), h10)))) else (
  (f_Tape_goOn h).bind fun h13 =>
  some (((1 : Int32), h13))))
set_option maxHeartbeats 4000000 in
set_option maxRecDepth 100000 in
theorem f_Tape_goToClause_e_ok {g : xG} {l : Launch} {d : Nat} {h : xH} {o : (Int32 × xH)} {R : Option xV} {H' : xH} (hD : 1 ≤ d) (hf : f_Tape_goToClause_e h = some o) (K0 : ∀ (a : Int32) (h1 : xH), o = (a, h1) → R = some (xi a) ∧ H' = h1) : xEv g l d 73 0 [(0, xr 7 (some 0))] [] h R H' := by
  unfold f_Tape_goToClause_e at hf
  refine xs_aload_n d73_0 rfl ?_
  obtain ⟨r1, hc2, hf⟩ := lk_b hf
  refine xe_callv1 (as := []) (st := []) (h2 := h) (d2 := d - 1) d73_1 ky73 ml29 st69 (by decide) cn69 rfl na69 (Nat.le_of_ble_eq_true rfl) (by omega) (f_Tape_isWell_ok (by omega) hc2) ?_
  rcases lk_if hf with ⟨hc3, hf⟩ | ⟨hc3, hf⟩
  · refine xs_if_ne (tgt := 9) d73_4 (by decide) (fun _ => ?_) (fun hn => absurd hc3 hn)
    refine xs_iconst (v := 0) d73_7 (by decide) ?_
    obtain ⟨eR, eH⟩ := K0 _ _ (Option.some.inj hf).symm
    subst eR; subst eH
    exact xe_zret d73_8 (Or.inl rfl) rt73
  · refine xs_if_ne (tgt := 9) d73_4 (by decide) (fun hp => absurd hp hc3) (fun _ => ?_)
    refine xs_aload_n d73_9 rfl ?_
    refine xs_bipush (v := 59) d73_10 (by decide) ?_
    obtain ⟨r4, hc5, hf⟩ := lk_b hf
    refine xe_callv1 (as := [xi (59 : Int32)]) (st := []) (h2 := h) (d2 := d - 1) d73_12 ky73 ml30 st71 (by decide) cn71 rfl na71 (Nat.le_of_ble_eq_true rfl) (by omega) (f_Tape_isSign_ok (by omega) hc5) ?_
    rcases lk_if hf with ⟨hc6, hf⟩ | ⟨hc6, hf⟩
    · refine xs_if_eq (tgt := 24) d73_15 (by decide) (fun _ => ?_) (fun hn => absurd hc6 hn)
      refine xs_aload_n d73_24 rfl ?_
      refine xe_geti d73_25 ky73 fl10 fk7_7 ?_
      rcases lk_if hf with ⟨hc7, hf⟩ | ⟨hc7, hf⟩
      · refine xs_if_eq (tgt := 36) d73_28 (by decide) (fun _ => ?_) (fun hn => absurd hc7 hn)
        refine xs_iconst (v := 0) d73_36 (by decide) ?_
        obtain ⟨eR, eH⟩ := K0 _ _ (Option.some.inj hf).symm
        subst eR; subst eH
        exact xe_zret d73_37 (Or.inl rfl) rt73
      · refine xs_if_eq (tgt := 36) d73_28 (by decide) (fun hp => absurd hp hc7) (fun _ => ?_)
        refine xs_aload_n d73_31 rfl ?_
        refine xs_iconst (v := 0) d73_32 (by decide) ?_
        obtain ⟨h10, hc9, hf⟩ := lk_b hf
        refine xe_callv0 (as := [xi (0 : Int32)]) (st := []) (h2 := h10) (d2 := d - 1) d73_33 ky73 ml31 st70 (by decide) cn70 rfl na70 (Nat.le_of_ble_eq_true rfl) (by omega) (f_Tape_fail_ok (by omega) hc9) ?_
        refine xs_iconst (v := 0) d73_36 (by decide) ?_
        obtain ⟨eR, eH⟩ := K0 _ _ (Option.some.inj hf).symm
        subst eR; subst eH
        exact xe_zret d73_37 (Or.inl rfl) rt73
    · refine xs_if_eq (tgt := 24) d73_15 (by decide) (fun hp => absurd hp hc6) (fun _ => ?_)
      refine xs_aload_n d73_18 rfl ?_
      obtain ⟨h13, hc12, hf⟩ := lk_b hf
      refine xe_callv0 (as := []) (st := []) (h2 := h13) (d2 := d - 1) d73_19 ky73 ml17 st68 (by decide) cn68 rfl na68 (Nat.le_of_ble_eq_true rfl) (by omega) (f_Tape_goOn_ok (by omega) hc12) ?_
      refine xs_iconst (v := 1) d73_22 (by decide) ?_
      obtain ⟨eR, eH⟩ := K0 _ _ (Option.some.inj hf).symm
      subst eR; subst eH
      exact xe_zret d73_23 (Or.inr rfl) rt73
noncomputable def f_Tape_goToClause (h : xH) : Option (Int32 × xH) := f_Tape_goToClause_e h
theorem f_Tape_goToClause_ok {g : xG} {l : Launch} {d : Nat} {h : xH} {r : Int32} {h1 : xH} (hD : 1 ≤ d) (hf : f_Tape_goToClause h = some (r, h1)) : xC g l d 73 [xr 7 (some 0)] h (some (xi r)) h1 :=
  xC_of (by decide) (Nat.le_of_ble_eq_true rfl) (f_Tape_goToClause_e_ok hD hf (fun _ _ e => by cases e; exact ⟨rfl, rfl⟩))
theorem d74_0 : decode (xcode 74) 0 = .ok (.aload_n 0, 1) := by decide +kernel
theorem d74_1 : decode (xcode 74) 1 = .ok (.iconst 0, 1) := by decide +kernel
theorem d74_2 : decode (xcode 74) 2 = .ok (.putfield 27, 3) := by decide +kernel
theorem d74_5 : decode (xcode 74) 5 = .ok (.aload_n 0, 1) := by decide +kernel
theorem d74_6 : decode (xcode 74) 6 = .ok (.iconst 0, 1) := by decide +kernel
theorem d74_7 : decode (xcode 74) 7 = .ok (.putfield 31, 3) := by decide +kernel
theorem d74_10 : decode (xcode 74) 10 = .ok (.aload_n 0, 1) := by decide +kernel
theorem d74_11 : decode (xcode 74) 11 = .ok (.iconst 0, 1) := by decide +kernel
theorem d74_12 : decode (xcode 74) 12 = .ok (.putfield 35, 3) := by decide +kernel
theorem d74_15 : decode (xcode 74) 15 = .ok (.aload_n 0, 1) := by decide +kernel
theorem d74_16 : decode (xcode 74) 16 = .ok (.iconst 0, 1) := by decide +kernel
theorem d74_17 : decode (xcode 74) 17 = .ok (.putfield 38, 3) := by decide +kernel
theorem d74_20 : decode (xcode 74) 20 = .ok (.aload_n 0, 1) := by decide +kernel
theorem d74_21 : decode (xcode 74) 21 = .ok (.iconst 0, 1) := by decide +kernel
theorem d74_22 : decode (xcode 74) 22 = .ok (.putfield 41, 3) := by decide +kernel
theorem d74_25 : decode (xcode 74) 25 = .ok (.iconst 0, 1) := by decide +kernel
theorem d74_26 : decode (xcode 74) 26 = .ok (.istore_n 1, 1) := by decide +kernel
theorem d74_27 : decode (xcode 74) 27 = .ok (.iload_n 1, 1) := by decide +kernel
theorem d74_28 : decode (xcode 74) 28 = .ok (.bipush 8, 2) := by decide +kernel
theorem d74_30 : decode (xcode 74) 30 = .ok (.if_icmp .ge 37, 3) := by decide +kernel
theorem d74_33 : decode (xcode 74) 33 = .ok (.aload_n 0, 1) := by decide +kernel
theorem d74_34 : decode (xcode 74) 34 = .ok (.getfield 9, 3) := by decide +kernel
theorem d74_37 : decode (xcode 74) 37 = .ok (.iload_n 1, 1) := by decide +kernel
theorem d74_38 : decode (xcode 74) 38 = .ok (.iconst 0, 1) := by decide +kernel
theorem d74_39 : decode (xcode 74) 39 = .ok (.iastore, 1) := by decide +kernel
theorem d74_40 : decode (xcode 74) 40 = .ok (.aload_n 0, 1) := by decide +kernel
theorem d74_41 : decode (xcode 74) 41 = .ok (.getfield 15, 3) := by decide +kernel
theorem d74_44 : decode (xcode 74) 44 = .ok (.iload_n 1, 1) := by decide +kernel
theorem d74_45 : decode (xcode 74) 45 = .ok (.iconst 0, 1) := by decide +kernel
theorem d74_46 : decode (xcode 74) 46 = .ok (.iastore, 1) := by decide +kernel
theorem d74_47 : decode (xcode 74) 47 = .ok (.aload_n 0, 1) := by decide +kernel
theorem d74_48 : decode (xcode 74) 48 = .ok (.getfield 18, 3) := by decide +kernel
theorem d74_51 : decode (xcode 74) 51 = .ok (.iload_n 1, 1) := by decide +kernel
theorem d74_52 : decode (xcode 74) 52 = .ok (.iconst 0, 1) := by decide +kernel
theorem d74_53 : decode (xcode 74) 53 = .ok (.iastore, 1) := by decide +kernel
theorem d74_54 : decode (xcode 74) 54 = .ok (.aload_n 0, 1) := by decide +kernel
theorem d74_55 : decode (xcode 74) 55 = .ok (.getfield 21, 3) := by decide +kernel
theorem d74_58 : decode (xcode 74) 58 = .ok (.iload_n 1, 1) := by decide +kernel
theorem d74_59 : decode (xcode 74) 59 = .ok (.iconst 0, 1) := by decide +kernel
theorem d74_60 : decode (xcode 74) 60 = .ok (.iastore, 1) := by decide +kernel
theorem d74_61 : decode (xcode 74) 61 = .ok (.iinc 1 1, 3) := by decide +kernel
theorem d74_64 : decode (xcode 74) 64 = .ok (.goto (-37), 3) := by decide +kernel
theorem d74_67 : decode (xcode 74) 67 = .ok (.iconst 0, 1) := by decide +kernel
theorem d74_68 : decode (xcode 74) 68 = .ok (.istore_n 1, 1) := by decide +kernel
theorem d74_69 : decode (xcode 74) 69 = .ok (.iload_n 1, 1) := by decide +kernel
theorem d74_70 : decode (xcode 74) 70 = .ok (.iconst 4, 1) := by decide +kernel
theorem d74_71 : decode (xcode 74) 71 = .ok (.if_icmp .ge 16, 3) := by decide +kernel
theorem d74_74 : decode (xcode 74) 74 = .ok (.aload_n 0, 1) := by decide +kernel
theorem d74_75 : decode (xcode 74) 75 = .ok (.getfield 24, 3) := by decide +kernel
theorem d74_78 : decode (xcode 74) 78 = .ok (.iload_n 1, 1) := by decide +kernel
theorem d74_79 : decode (xcode 74) 79 = .ok (.iconst 0, 1) := by decide +kernel
theorem d74_80 : decode (xcode 74) 80 = .ok (.iastore, 1) := by decide +kernel
theorem d74_81 : decode (xcode 74) 81 = .ok (.iinc 1 1, 3) := by decide +kernel
theorem d74_84 : decode (xcode 74) 84 = .ok (.goto (-15), 3) := by decide +kernel
theorem d74_87 : decode (xcode 74) 87 = .ok (.return_, 1) := by decide +kernel
noncomputable def f_Told_clear_s69 (i0 : Nat) (v1 : Int32) (h : xH) : Option ((Int32 × xH) ⊕ xH) :=
  if (4 : Int32) ≤ v1 then (
  some (Sum.inr (h))) else (
  if xib v1 4 then (
  xlet (xsA h 41 i0 (upd (h.2.2.2.1 41 i0) (v1).toNatClampNeg (0 : Int32))) fun h9 =>
  xlet (v1 + (1 : Int32)) fun v1_10 =>
  some (Sum.inl (v1_10, h9))) else none)
set_option maxHeartbeats 4000000 in
set_option maxRecDepth 100000 in
theorem f_Told_clear_s69_ok {g : xG} {l : Launch} {d : Nat} {i0 : Nat} {v1 : Int32} {h : xH} {o : ((Int32 × xH) ⊕ xH)} {R : Option xV} {H' : xH} (hD : 0 ≤ d) (hf : f_Told_clear_s69 i0 v1 h = some o) (K1 : ∀ (w1 : Int32) (h1 : xH), o = Sum.inl (w1, h1) → xEv g l d 74 69 [(0, xr 8 (some i0)), (1, xi w1)] [] h1 R H') (K0 : ∀ (h1 : xH), o = Sum.inr (h1) → R = none ∧ H' = h1) : xEv g l d 74 69 [(0, xr 8 (some i0)), (1, xi v1)] [] h R H' := by
  unfold f_Told_clear_s69 at hf
  refine xs_iload_n d74_69 rfl ?_
  refine xs_iconst (v := 4) d74_70 (by decide) ?_
  rcases lk_if hf with ⟨hc7, hf⟩ | ⟨hc7, hf⟩
  · refine xs_icmp_ge (tgt := 87) d74_71 (by decide) (fun _ => ?_) (fun hn => absurd hc7 hn)
    obtain ⟨eR, eH⟩ := K0 _ (Option.some.inj hf).symm
    subst eR; subst eH
    exact xs_vret d74_87 rt74
  · refine xs_icmp_ge (tgt := 87) d74_71 (by decide) (fun hp => absurd hp hc7) (fun _ => ?_)
    refine xs_aload_n d74_74 rfl ?_
    refine xe_getc (j := i0) d74_75 ky74 fl51 fk8_9 (by omega) ?_
    refine xs_iload_n d74_78 rfl ?_
    refine xs_iconst (v := 0) d74_79 (by decide) ?_
    obtain ⟨hin8, hf⟩ := lk_g hf
    obtain ⟨h9, eh9, hf⟩ := lk_let hf
    refine xe_iast d74_80 (by decide) ak41 hin8  eh9 ?_
    obtain ⟨v1_10, ev1_10, hf⟩ := lk_let hf
    refine xe_iinc (v := v1_10) (b := 1) (ls2 := [(0, xr 8 (some i0)), (1, xi v1_10)]) d74_81 mx74 (by decide) rfl (by decide) ev1_10 rfl ?_
    refine xs_goto (tgt := 69) d74_84 (by decide) ?_
    exact K1 _ _ (Option.some.inj hf).symm
noncomputable def f_Told_clear_l69 (i0 : Nat) (v1 : Int32) (h : xH) : Option xH :=
  whl (fun s => f_Told_clear_s69 i0 s.1 s.2) (v1, h)
theorem f_Told_clear_l69_ok {g : xG} {l : Launch} {d : Nat} {i0 : Nat} {v1 : Int32} {h : xH} {o : xH} {R : Option xV} {H' : xH} (hD : 0 ≤ d) (hf : f_Told_clear_l69 i0 v1 h = some o) (K0 : ∀ (h1 : xH), o = h1 → R = none ∧ H' = h1) : xEv g l d 74 69 [(0, xr 8 (some i0)), (1, xi v1)] [] h R H' := by
  obtain ⟨n, hn⟩ := whl_iff.mp hf
  clear hf
  induction n generalizing v1 h with
  | zero => cases hn
  | succ n ih =>
    obtain ⟨o2, hs, hn⟩ := lk_b (show (f_Told_clear_s69 i0 v1 h).bind (fun o => Sum.elim (itn _ n) some o) = some o from hn)
    exact f_Told_clear_s69_ok hD hs (fun u0 u1 e => ih (by rw [e] at hn; exact hn)) (fun u0 e => K0 u0 (by rw [e] at hn; exact (Option.some.inj hn).symm))
noncomputable def f_Told_clear_b67 (i0 : Nat) (h : xH) : Option xH :=
  f_Told_clear_l69 i0 (0 : Int32) h
set_option maxHeartbeats 4000000 in
set_option maxRecDepth 100000 in
theorem f_Told_clear_b67_ok {g : xG} {l : Launch} {d : Nat} {i0 : Nat} {h : xH} {o : xH} {R : Option xV} {H' : xH} (hD : 0 ≤ d) (hf : f_Told_clear_b67 i0 h = some o) (K0 : ∀ (h1 : xH), o = h1 → R = none ∧ H' = h1) : xEv g l d 74 67 [(0, xr 8 (some i0))] [] h R H' := by
  unfold f_Told_clear_b67 at hf
  refine xs_iconst (v := 0) d74_67 (by decide) ?_
  refine xe_istore_n (v := (0 : Int32)) (ls2 := [(0, xr 8 (some i0)), (1, xi (0 : Int32))]) d74_68 mx74 (by decide) rfl rfl ?_
  exact f_Told_clear_l69_ok hD hf K0
noncomputable def f_Told_clear_s27 (i0 : Nat) (v1 : Int32) (h : xH) : Option ((Int32 × xH) ⊕ xH) :=
  if (8 : Int32) ≤ v1 then (
  xup (f_Told_clear_b67 i0 h)) else (
  if xib v1 8 then (
  xlet (xsA h 37 i0 (upd (h.2.2.2.1 37 i0) (v1).toNatClampNeg (0 : Int32))) fun h12 =>
  if xib v1 8 then (
  xlet (xsA h12 38 i0 (upd (h12.2.2.2.1 38 i0) (v1).toNatClampNeg (0 : Int32))) fun h14 =>
  if xib v1 8 then (
  xlet (xsA h14 39 i0 (upd (h14.2.2.2.1 39 i0) (v1).toNatClampNeg (0 : Int32))) fun h16 =>
  if xib v1 8 then (
  xlet (xsA h16 40 i0 (upd (h16.2.2.2.1 40 i0) (v1).toNatClampNeg (0 : Int32))) fun h18 =>
  xlet (v1 + (1 : Int32)) fun v1_19 =>
  some (Sum.inl (v1_19, h18))) else none) else none) else none) else none)
set_option maxHeartbeats 4000000 in
set_option maxRecDepth 100000 in
theorem f_Told_clear_s27_ok {g : xG} {l : Launch} {d : Nat} {i0 : Nat} {v1 : Int32} {h : xH} {o : ((Int32 × xH) ⊕ xH)} {R : Option xV} {H' : xH} (hD : 0 ≤ d) (hf : f_Told_clear_s27 i0 v1 h = some o) (K1 : ∀ (w1 : Int32) (h1 : xH), o = Sum.inl (w1, h1) → xEv g l d 74 27 [(0, xr 8 (some i0)), (1, xi w1)] [] h1 R H') (K0 : ∀ (h1 : xH), o = Sum.inr (h1) → R = none ∧ H' = h1) : xEv g l d 74 27 [(0, xr 8 (some i0)), (1, xi v1)] [] h R H' := by
  unfold f_Told_clear_s27 at hf
  refine xs_iload_n d74_27 rfl ?_
  refine xs_bipush (v := 8) d74_28 (by decide) ?_
  rcases lk_if hf with ⟨hc6, hf⟩ | ⟨hc6, hf⟩
  · refine xs_icmp_ge (tgt := 67) d74_30 (by decide) (fun _ => ?_) (fun hn => absurd hc6 hn)
    refine xs_pick [0] rfl ?_
    obtain ⟨x0, hf, ex0⟩ := lk_up hf
    exact f_Told_clear_b67_ok hD hf (fun u0 e => K0 u0 (ex0.trans (congrArg Sum.inr e)))
  · refine xs_icmp_ge (tgt := 67) d74_30 (by decide) (fun hp => absurd hp hc6) (fun _ => ?_)
    refine xs_aload_n d74_33 rfl ?_
    refine xe_getc (j := i0) d74_34 ky74 fl37 fk8_5 (by omega) ?_
    refine xs_iload_n d74_37 rfl ?_
    refine xs_iconst (v := 0) d74_38 (by decide) ?_
    obtain ⟨hin11, hf⟩ := lk_g hf
    obtain ⟨h12, eh12, hf⟩ := lk_let hf
    refine xe_iast d74_39 (by decide) ak37 hin11  eh12 ?_
    refine xs_aload_n d74_40 rfl ?_
    refine xe_getc (j := i0) d74_41 ky74 fl40 fk8_6 (by omega) ?_
    refine xs_iload_n d74_44 rfl ?_
    refine xs_iconst (v := 0) d74_45 (by decide) ?_
    obtain ⟨hin13, hf⟩ := lk_g hf
    obtain ⟨h14, eh14, hf⟩ := lk_let hf
    refine xe_iast d74_46 (by decide) ak38 hin13  eh14 ?_
    refine xs_aload_n d74_47 rfl ?_
    refine xe_getc (j := i0) d74_48 ky74 fl43 fk8_7 (by omega) ?_
    refine xs_iload_n d74_51 rfl ?_
    refine xs_iconst (v := 0) d74_52 (by decide) ?_
    obtain ⟨hin15, hf⟩ := lk_g hf
    obtain ⟨h16, eh16, hf⟩ := lk_let hf
    refine xe_iast d74_53 (by decide) ak39 hin15  eh16 ?_
    refine xs_aload_n d74_54 rfl ?_
    refine xe_getc (j := i0) d74_55 ky74 fl48 fk8_8 (by omega) ?_
    refine xs_iload_n d74_58 rfl ?_
    refine xs_iconst (v := 0) d74_59 (by decide) ?_
    obtain ⟨hin17, hf⟩ := lk_g hf
    obtain ⟨h18, eh18, hf⟩ := lk_let hf
    refine xe_iast d74_60 (by decide) ak40 hin17  eh18 ?_
    obtain ⟨v1_19, ev1_19, hf⟩ := lk_let hf
    refine xe_iinc (v := v1_19) (b := 1) (ls2 := [(0, xr 8 (some i0)), (1, xi v1_19)]) d74_61 mx74 (by decide) rfl (by decide) ev1_19 rfl ?_
    refine xs_goto (tgt := 27) d74_64 (by decide) ?_
    exact K1 _ _ (Option.some.inj hf).symm
noncomputable def f_Told_clear_l27 (i0 : Nat) (v1 : Int32) (h : xH) : Option xH :=
  whl (fun s => f_Told_clear_s27 i0 s.1 s.2) (v1, h)
theorem f_Told_clear_l27_ok {g : xG} {l : Launch} {d : Nat} {i0 : Nat} {v1 : Int32} {h : xH} {o : xH} {R : Option xV} {H' : xH} (hD : 0 ≤ d) (hf : f_Told_clear_l27 i0 v1 h = some o) (K0 : ∀ (h1 : xH), o = h1 → R = none ∧ H' = h1) : xEv g l d 74 27 [(0, xr 8 (some i0)), (1, xi v1)] [] h R H' := by
  obtain ⟨n, hn⟩ := whl_iff.mp hf
  clear hf
  induction n generalizing v1 h with
  | zero => cases hn
  | succ n ih =>
    obtain ⟨o2, hs, hn⟩ := lk_b (show (f_Told_clear_s27 i0 v1 h).bind (fun o => Sum.elim (itn _ n) some o) = some o from hn)
    exact f_Told_clear_s27_ok hD hs (fun u0 u1 e => ih (by rw [e] at hn; exact hn)) (fun u0 e => K0 u0 (by rw [e] at hn; exact (Option.some.inj hn).symm))
noncomputable def f_Told_clear_e (i0 : Nat) (h : xH) : Option xH :=
  xlet (xsI h 8 0 i0 (0 : Int32)) fun h1 =>
  xlet (xsI h1 8 1 i0 (0 : Int32)) fun h2 =>
  xlet (xsI h2 8 2 i0 (0 : Int32)) fun h3 =>
  xlet (xsI h3 8 3 i0 (0 : Int32)) fun h4 =>
  xlet (xsI h4 8 4 i0 (0 : Int32)) fun h5 =>
  f_Told_clear_l27 i0 (0 : Int32) h5
set_option maxHeartbeats 4000000 in
set_option maxRecDepth 100000 in
theorem f_Told_clear_e_ok {g : xG} {l : Launch} {d : Nat} {i0 : Nat} {h : xH} {o : xH} {R : Option xV} {H' : xH} (hD : 0 ≤ d) (hf : f_Told_clear_e i0 h = some o) (K0 : ∀ (h1 : xH), o = h1 → R = none ∧ H' = h1) : xEv g l d 74 0 [(0, xr 8 (some i0))] [] h R H' := by
  unfold f_Told_clear_e at hf
  refine xs_aload_n d74_0 rfl ?_
  refine xs_iconst (v := 0) d74_1 (by decide) ?_
  obtain ⟨h1, eh1, hf⟩ := lk_let hf
  refine xe_putz d74_2 ky74 fl17 fk8_0 ft8_0 (Or.inl rfl) eh1 ?_
  refine xs_aload_n d74_5 rfl ?_
  refine xs_iconst (v := 0) d74_6 (by decide) ?_
  obtain ⟨h2, eh2, hf⟩ := lk_let hf
  refine xe_puti d74_7 ky74 fl20 fk8_1 ft8_1 eh2 ?_
  refine xs_aload_n d74_10 rfl ?_
  refine xs_iconst (v := 0) d74_11 (by decide) ?_
  obtain ⟨h3, eh3, hf⟩ := lk_let hf
  refine xe_puti d74_12 ky74 fl25 fk8_2 ft8_2 eh3 ?_
  refine xs_aload_n d74_15 rfl ?_
  refine xs_iconst (v := 0) d74_16 (by decide) ?_
  obtain ⟨h4, eh4, hf⟩ := lk_let hf
  refine xe_puti d74_17 ky74 fl30 fk8_3 ft8_3 eh4 ?_
  refine xs_aload_n d74_20 rfl ?_
  refine xs_iconst (v := 0) d74_21 (by decide) ?_
  obtain ⟨h5, eh5, hf⟩ := lk_let hf
  refine xe_puti d74_22 ky74 fl33 fk8_4 ft8_4 eh5 ?_
  refine xs_iconst (v := 0) d74_25 (by decide) ?_
  refine xe_istore_n (v := (0 : Int32)) (ls2 := [(0, xr 8 (some i0)), (1, xi (0 : Int32))]) d74_26 mx74 (by decide) rfl rfl ?_
  exact f_Told_clear_l27_ok hD hf K0
noncomputable def f_Told_clear (i0 : Nat) (h : xH) : Option xH := f_Told_clear_e i0 h
theorem f_Told_clear_ok {g : xG} {l : Launch} {d : Nat} {i0 : Nat} {h : xH} {h1 : xH} (hD : 0 ≤ d) (hf : f_Told_clear i0 h = some h1) : xC g l d 74 [xr 8 (some i0)] h none h1 :=
  xC_of (by decide) (Nat.le_of_ble_eq_true rfl) (f_Told_clear_e_ok hD hf (fun _ e => ⟨rfl, e⟩))
theorem d76_0 : decode (xcode 76) 0 = .ok (.iload_n 1, 1) := by decide +kernel
theorem d76_1 : decode (xcode 76) 1 = .ok (.ifCond .lt 21, 3) := by decide +kernel
theorem d76_4 : decode (xcode 76) 4 = .ok (.iload_n 1, 1) := by decide +kernel
theorem d76_5 : decode (xcode 76) 5 = .ok (.aload_n 0, 1) := by decide +kernel
theorem d76_6 : decode (xcode 76) 6 = .ok (.getfield 38, 3) := by decide +kernel
theorem d76_9 : decode (xcode 76) 9 = .ok (.if_icmp .ge 13, 3) := by decide +kernel
theorem d76_12 : decode (xcode 76) 12 = .ok (.iload_n 1, 1) := by decide +kernel
theorem d76_13 : decode (xcode 76) 13 = .ok (.bipush 8, 2) := by decide +kernel
theorem d76_15 : decode (xcode 76) 15 = .ok (.if_icmp .ge 7, 3) := by decide +kernel
theorem d76_18 : decode (xcode 76) 18 = .ok (.iconst 1, 1) := by decide +kernel
theorem d76_19 : decode (xcode 76) 19 = .ok (.goto 4, 3) := by decide +kernel
theorem d76_22 : decode (xcode 76) 22 = .ok (.iconst 0, 1) := by decide +kernel
theorem d76_23 : decode (xcode 76) 23 = .ok (.ireturn, 1) := by decide +kernel
noncomputable def f_Told_hasSorrow_e (i0 : Nat) (v1 : Int32) (h : xH) : Option Int32 :=
  if v1 < (0 : Int32) then (
  some ((0 : Int32))) else (
  if (h.1 8 3 i0) ≤ v1 then (
  some ((0 : Int32))) else (
  if (8 : Int32) ≤ v1 then (
  some ((0 : Int32))) else (
  some ((1 : Int32)))))
set_option maxHeartbeats 4000000 in
set_option maxRecDepth 100000 in
theorem f_Told_hasSorrow_e_ok {g : xG} {l : Launch} {d : Nat} {i0 : Nat} {v1 : Int32} {h : xH} {o : Int32} {R : Option xV} (hD : 0 ≤ d) (hf : f_Told_hasSorrow_e i0 v1 h = some o) (K0 : ∀ (a : Int32), o = a → R = some (xi a)) : xEv g l d 76 0 [(0, xr 8 (some i0)), (1, xi v1)] [] h R h := by
  unfold f_Told_hasSorrow_e at hf
  refine xs_iload_n d76_0 rfl ?_
  rcases lk_if hf with ⟨hc1, hf⟩ | ⟨hc1, hf⟩
  · refine xs_if_lt (tgt := 22) d76_1 (by decide) (fun _ => ?_) (fun hn => absurd hc1 hn)
    refine xs_iconst (v := 0) d76_22 (by decide) ?_
    obtain eR := K0 _ (Option.some.inj hf).symm
    subst eR
    exact xe_zret d76_23 (Or.inl rfl) rt76
  · refine xs_if_lt (tgt := 22) d76_1 (by decide) (fun hp => absurd hp hc1) (fun _ => ?_)
    refine xs_iload_n d76_4 rfl ?_
    refine xs_aload_n d76_5 rfl ?_
    refine xe_geti d76_6 ky76 fl30 fk8_3 ?_
    rcases lk_if hf with ⟨hc2, hf⟩ | ⟨hc2, hf⟩
    · refine xs_icmp_ge (tgt := 22) d76_9 (by decide) (fun _ => ?_) (fun hn => absurd hc2 hn)
      refine xs_iconst (v := 0) d76_22 (by decide) ?_
      obtain eR := K0 _ (Option.some.inj hf).symm
      subst eR
      exact xe_zret d76_23 (Or.inl rfl) rt76
    · refine xs_icmp_ge (tgt := 22) d76_9 (by decide) (fun hp => absurd hp hc2) (fun _ => ?_)
      refine xs_iload_n d76_12 rfl ?_
      refine xs_bipush (v := 8) d76_13 (by decide) ?_
      rcases lk_if hf with ⟨hc3, hf⟩ | ⟨hc3, hf⟩
      · refine xs_icmp_ge (tgt := 22) d76_15 (by decide) (fun _ => ?_) (fun hn => absurd hc3 hn)
        refine xs_iconst (v := 0) d76_22 (by decide) ?_
        obtain eR := K0 _ (Option.some.inj hf).symm
        subst eR
        exact xe_zret d76_23 (Or.inl rfl) rt76
      · refine xs_icmp_ge (tgt := 22) d76_15 (by decide) (fun hp => absurd hp hc3) (fun _ => ?_)
        refine xs_iconst (v := 1) d76_18 (by decide) ?_
        refine xs_goto (tgt := 23) d76_19 (by decide) ?_
        obtain eR := K0 _ (Option.some.inj hf).symm
        subst eR
        exact xe_zret d76_23 (Or.inr rfl) rt76
noncomputable def f_Told_hasSorrow (i0 : Nat) (v1 : Int32) (h : xH) : Option Int32 := f_Told_hasSorrow_e i0 v1 h
theorem f_Told_hasSorrow_ok {g : xG} {l : Launch} {d : Nat} {i0 : Nat} {v1 : Int32} {h : xH} {r : Int32} (hD : 0 ≤ d) (hf : f_Told_hasSorrow i0 v1 h = some r) : xC g l d 76 [xr 8 (some i0), xi v1] h (some (xi r)) h :=
  xC_of (by decide) (Nat.le_of_ble_eq_true rfl) (f_Told_hasSorrow_e_ok hD hf (fun _ e => by rw [e]))
theorem d77_0 : decode (xcode 77) 0 = .ok (.iconst 0, 1) := by decide +kernel
theorem d77_1 : decode (xcode 77) 1 = .ok (.istore_n 2, 1) := by decide +kernel
theorem d77_2 : decode (xcode 77) 2 = .ok (.iconst 0, 1) := by decide +kernel
theorem d77_3 : decode (xcode 77) 3 = .ok (.istore_n 3, 1) := by decide +kernel
theorem d77_4 : decode (xcode 77) 4 = .ok (.iload_n 3, 1) := by decide +kernel
theorem d77_5 : decode (xcode 77) 5 = .ok (.bipush 8, 2) := by decide +kernel
theorem d77_7 : decode (xcode 77) 7 = .ok (.if_icmp .ge 26, 3) := by decide +kernel
theorem d77_10 : decode (xcode 77) 10 = .ok (.iload_n 1, 1) := by decide +kernel
theorem d77_11 : decode (xcode 77) 11 = .ok (.iload_n 3, 1) := by decide +kernel
theorem d77_12 : decode (xcode 77) 12 = .ok (.ishr, 1) := by decide +kernel
theorem d77_13 : decode (xcode 77) 13 = .ok (.iconst 1, 1) := by decide +kernel
theorem d77_14 : decode (xcode 77) 14 = .ok (.iand, 1) := by decide +kernel
theorem d77_15 : decode (xcode 77) 15 = .ok (.ifCond .eq 12, 3) := by decide +kernel
theorem d77_18 : decode (xcode 77) 18 = .ok (.iload_n 2, 1) := by decide +kernel
theorem d77_19 : decode (xcode 77) 19 = .ok (.aload_n 0, 1) := by decide +kernel
theorem d77_20 : decode (xcode 77) 20 = .ok (.getfield 18, 3) := by decide +kernel
theorem d77_23 : decode (xcode 77) 23 = .ok (.iload_n 3, 1) := by decide +kernel
theorem d77_24 : decode (xcode 77) 24 = .ok (.iaload, 1) := by decide +kernel
theorem d77_25 : decode (xcode 77) 25 = .ok (.iadd, 1) := by decide +kernel
theorem d77_26 : decode (xcode 77) 26 = .ok (.istore_n 2, 1) := by decide +kernel
theorem d77_27 : decode (xcode 77) 27 = .ok (.iinc 3 1, 3) := by decide +kernel
theorem d77_30 : decode (xcode 77) 30 = .ok (.goto (-26), 3) := by decide +kernel
theorem d77_33 : decode (xcode 77) 33 = .ok (.iload_n 2, 1) := by decide +kernel
theorem d77_34 : decode (xcode 77) 34 = .ok (.ireturn, 1) := by decide +kernel
noncomputable def f_Told_deepOf_b27 (i0 : Nat) (v1 : Int32) (v2 : Int32) (v3 : Int32) (h : xH) : Option ((Int32 × Int32) ⊕ Int32) :=
  xlet (v3 + (1 : Int32)) fun v3_3 =>
  some (Sum.inl (v2, v3_3))
set_option maxHeartbeats 4000000 in
set_option maxRecDepth 100000 in
theorem f_Told_deepOf_b27_ok {g : xG} {l : Launch} {d : Nat} {i0 : Nat} {v1 : Int32} {v2 : Int32} {v3 : Int32} {h : xH} {o : ((Int32 × Int32) ⊕ Int32)} {R : Option xV} (hD : 0 ≤ d) (hf : f_Told_deepOf_b27 i0 v1 v2 v3 h = some o) (K1 : ∀ (w2 : Int32) (w3 : Int32), o = Sum.inl (w2, w3) → xEv g l d 77 4 [(0, xr 8 (some i0)), (1, xi v1), (2, xi w2), (3, xi w3)] [] h R h) (K0 : ∀ (a : Int32), o = Sum.inr (a) → R = some (xi a)) : xEv g l d 77 27 [(0, xr 8 (some i0)), (1, xi v1), (2, xi v2), (3, xi v3)] [] h R h := by
  unfold f_Told_deepOf_b27 at hf
  obtain ⟨v3_3, ev3_3, hf⟩ := lk_let hf
  refine xe_iinc (v := v3_3) (b := 1) (ls2 := [(0, xr 8 (some i0)), (1, xi v1), (2, xi v2), (3, xi v3_3)]) d77_27 mx77 (by decide) rfl (by decide) ev3_3 rfl ?_
  refine xs_goto (tgt := 4) d77_30 (by decide) ?_
  exact K1 _ _ (Option.some.inj hf).symm
noncomputable def f_Told_deepOf_s4 (i0 : Nat) (v1 : Int32) (v2 : Int32) (v3 : Int32) (h : xH) : Option ((Int32 × Int32) ⊕ Int32) :=
  if (8 : Int32) ≤ v3 then (
  some (Sum.inr (v2))) else (
  if ((v1 >>> (v3 &&& 31)) &&& (1 : Int32)) = (0 : Int32) then (
  f_Told_deepOf_b27 i0 v1 v2 v3 h) else (
  if xib v3 8 then (
  xlet (v2 + (h.2.2.2.1 39 i0 (v3).toNatClampNeg)) fun v2_5 =>
  f_Told_deepOf_b27 i0 v1 v2_5 v3 h) else none))
set_option maxHeartbeats 4000000 in
set_option maxRecDepth 100000 in
theorem f_Told_deepOf_s4_ok {g : xG} {l : Launch} {d : Nat} {i0 : Nat} {v1 : Int32} {v2 : Int32} {v3 : Int32} {h : xH} {o : ((Int32 × Int32) ⊕ Int32)} {R : Option xV} (hD : 0 ≤ d) (hf : f_Told_deepOf_s4 i0 v1 v2 v3 h = some o) (K1 : ∀ (w2 : Int32) (w3 : Int32), o = Sum.inl (w2, w3) → xEv g l d 77 4 [(0, xr 8 (some i0)), (1, xi v1), (2, xi w2), (3, xi w3)] [] h R h) (K0 : ∀ (a : Int32), o = Sum.inr (a) → R = some (xi a)) : xEv g l d 77 4 [(0, xr 8 (some i0)), (1, xi v1), (2, xi v2), (3, xi v3)] [] h R h := by
  unfold f_Told_deepOf_s4 at hf
  refine xs_iload_n d77_4 rfl ?_
  refine xs_bipush (v := 8) d77_5 (by decide) ?_
  rcases lk_if hf with ⟨hc1, hf⟩ | ⟨hc1, hf⟩
  · refine xs_icmp_ge (tgt := 33) d77_7 (by decide) (fun _ => ?_) (fun hn => absurd hc1 hn)
    refine xs_iload_n d77_33 rfl ?_
    obtain eR := K0 _ (Option.some.inj hf).symm
    subst eR
    exact xs_iret d77_34 rt77
  · refine xs_icmp_ge (tgt := 33) d77_7 (by decide) (fun hp => absurd hp hc1) (fun _ => ?_)
    refine xs_iload_n d77_10 rfl ?_
    refine xs_iload_n d77_11 rfl ?_
    refine xs_ishr d77_12 ?_
    refine xs_iconst (v := 1) d77_13 (by decide) ?_
    refine xs_iand d77_14 ?_
    rcases lk_if hf with ⟨hc2, hf⟩ | ⟨hc2, hf⟩
    · refine xs_if_eq (tgt := 27) d77_15 (by decide) (fun _ => ?_) (fun hn => absurd hc2 hn)
      exact f_Told_deepOf_b27_ok hD hf K1 K0
    · refine xs_if_eq (tgt := 27) d77_15 (by decide) (fun hp => absurd hp hc2) (fun _ => ?_)
      refine xs_iload_n d77_18 rfl ?_
      refine xs_aload_n d77_19 rfl ?_
      refine xe_getc (j := i0) d77_20 ky77 fl43 fk8_7 (by omega) ?_
      refine xs_iload_n d77_23 rfl ?_
      obtain ⟨hin4, hf⟩ := lk_g hf
      refine xe_iald d77_24 (by decide) ak39 hin4 ?_
      refine xs_iadd d77_25 ?_
      obtain ⟨v2_5, ev2_5, hf⟩ := lk_let hf
      refine xe_istore_n (v := v2_5) (ls2 := [(0, xr 8 (some i0)), (1, xi v1), (2, xi v2_5), (3, xi v3)]) d77_26 mx77 (by decide) ev2_5 rfl ?_
      exact f_Told_deepOf_b27_ok hD hf K1 K0
noncomputable def f_Told_deepOf_l4 (i0 : Nat) (v1 : Int32) (v2 : Int32) (v3 : Int32) (h : xH) : Option Int32 :=
  whl (fun s => f_Told_deepOf_s4 i0 v1 s.1 s.2 h) (v2, v3)
theorem f_Told_deepOf_l4_ok {g : xG} {l : Launch} {d : Nat} {i0 : Nat} {v1 : Int32} {v2 : Int32} {v3 : Int32} {h : xH} {o : Int32} {R : Option xV} (hD : 0 ≤ d) (hf : f_Told_deepOf_l4 i0 v1 v2 v3 h = some o) (K0 : ∀ (a : Int32), o = a → R = some (xi a)) : xEv g l d 77 4 [(0, xr 8 (some i0)), (1, xi v1), (2, xi v2), (3, xi v3)] [] h R h := by
  obtain ⟨n, hn⟩ := whl_iff.mp hf
  clear hf
  induction n generalizing v2 v3 with
  | zero => cases hn
  | succ n ih =>
    obtain ⟨o2, hs, hn⟩ := lk_b (show (f_Told_deepOf_s4 i0 v1 v2 v3 h).bind (fun o => Sum.elim (itn _ n) some o) = some o from hn)
    exact f_Told_deepOf_s4_ok hD hs (fun u0 u1 e => ih (by rw [e] at hn; exact hn)) (fun u0 e => K0 u0 (by rw [e] at hn; exact (Option.some.inj hn).symm))
noncomputable def f_Told_deepOf_e (i0 : Nat) (v1 : Int32) (h : xH) : Option Int32 :=
  f_Told_deepOf_l4 i0 v1 (0 : Int32) (0 : Int32) h
set_option maxHeartbeats 4000000 in
set_option maxRecDepth 100000 in
theorem f_Told_deepOf_e_ok {g : xG} {l : Launch} {d : Nat} {i0 : Nat} {v1 : Int32} {h : xH} {o : Int32} {R : Option xV} (hD : 0 ≤ d) (hf : f_Told_deepOf_e i0 v1 h = some o) (K0 : ∀ (a : Int32), o = a → R = some (xi a)) : xEv g l d 77 0 [(0, xr 8 (some i0)), (1, xi v1)] [] h R h := by
  unfold f_Told_deepOf_e at hf
  refine xs_iconst (v := 0) d77_0 (by decide) ?_
  refine xe_istore_n (v := (0 : Int32)) (ls2 := [(0, xr 8 (some i0)), (1, xi v1), (2, xi (0 : Int32))]) d77_1 mx77 (by decide) rfl rfl ?_
  refine xs_iconst (v := 0) d77_2 (by decide) ?_
  refine xe_istore_n (v := (0 : Int32)) (ls2 := [(0, xr 8 (some i0)), (1, xi v1), (2, xi (0 : Int32)), (3, xi (0 : Int32))]) d77_3 mx77 (by decide) rfl rfl ?_
  exact f_Told_deepOf_l4_ok hD hf K0
noncomputable def f_Told_deepOf (i0 : Nat) (v1 : Int32) (h : xH) : Option Int32 := f_Told_deepOf_e i0 v1 h
theorem f_Told_deepOf_ok {g : xG} {l : Launch} {d : Nat} {i0 : Nat} {v1 : Int32} {h : xH} {r : Int32} (hD : 0 ≤ d) (hf : f_Told_deepOf i0 v1 h = some r) : xC g l d 77 [xr 8 (some i0), xi v1] h (some (xi r)) h :=
  xC_of (by decide) (Nat.le_of_ble_eq_true rfl) (f_Told_deepOf_e_ok hD hf (fun _ e => by rw [e]))
theorem d80_0 : decode (xcode 80) 0 = .ok (.aload_n 0, 1) := by decide +kernel
theorem d80_1 : decode (xcode 80) 1 = .ok (.getfield 28, 3) := by decide +kernel
theorem d80_4 : decode (xcode 80) 4 = .ok (.bipush 40, 2) := by decide +kernel
theorem d80_6 : decode (xcode 80) 6 = .ok (.if_icmp .ge 29, 3) := by decide +kernel
theorem d80_9 : decode (xcode 80) 9 = .ok (.iload_n 1, 1) := by decide +kernel
theorem d80_10 : decode (xcode 80) 10 = .ok (.bipush 12, 2) := by decide +kernel
theorem d80_12 : decode (xcode 80) 12 = .ok (.if_icmp .ne 7, 3) := by decide +kernel
theorem d80_15 : decode (xcode 80) 15 = .ok (.iconst 1, 1) := by decide +kernel
theorem d80_16 : decode (xcode 80) 16 = .ok (.goto 4, 3) := by decide +kernel
theorem d80_19 : decode (xcode 80) 19 = .ok (.iconst 0, 1) := by decide +kernel
theorem d80_20 : decode (xcode 80) 20 = .ok (.aload_n 0, 1) := by decide +kernel
theorem d80_21 : decode (xcode 80) 21 = .ok (.getfield 28, 3) := by decide +kernel
theorem d80_24 : decode (xcode 80) 24 = .ok (.ifCond .ne 7, 3) := by decide +kernel
theorem d80_27 : decode (xcode 80) 27 = .ok (.iconst 1, 1) := by decide +kernel
theorem d80_28 : decode (xcode 80) 28 = .ok (.goto 4, 3) := by decide +kernel
theorem d80_31 : decode (xcode 80) 31 = .ok (.iconst 0, 1) := by decide +kernel
theorem d80_32 : decode (xcode 80) 32 = .ok (.if_icmp .eq 5, 3) := by decide +kernel
theorem d80_35 : decode (xcode 80) 35 = .ok (.iconst 1, 1) := by decide +kernel
theorem d80_36 : decode (xcode 80) 36 = .ok (.ireturn, 1) := by decide +kernel
theorem d80_37 : decode (xcode 80) 37 = .ok (.iload_n 1, 1) := by decide +kernel
theorem d80_38 : decode (xcode 80) 38 = .ok (.ifCond .ne 15, 3) := by decide +kernel
theorem d80_41 : decode (xcode 80) 41 = .ok (.aload_n 0, 1) := by decide +kernel
theorem d80_42 : decode (xcode 80) 42 = .ok (.getfield 15, 3) := by decide +kernel
theorem d80_45 : decode (xcode 80) 45 = .ok (.getfield 83, 3) := by decide +kernel
theorem d80_48 : decode (xcode 80) 48 = .ok (.bipush 8, 2) := by decide +kernel
theorem d80_50 : decode (xcode 80) 50 = .ok (.if_icmp .ge 20, 3) := by decide +kernel
theorem d80_53 : decode (xcode 80) 53 = .ok (.iload_n 1, 1) := by decide +kernel
theorem d80_54 : decode (xcode 80) 54 = .ok (.bipush 14, 2) := by decide +kernel
theorem d80_56 : decode (xcode 80) 56 = .ok (.if_icmp .ne 18, 3) := by decide +kernel
theorem d80_59 : decode (xcode 80) 59 = .ok (.aload_n 0, 1) := by decide +kernel
theorem d80_60 : decode (xcode 80) 60 = .ok (.getfield 15, 3) := by decide +kernel
theorem d80_63 : decode (xcode 80) 63 = .ok (.getfield 86, 3) := by decide +kernel
theorem d80_66 : decode (xcode 80) 66 = .ok (.iconst 4, 1) := by decide +kernel
theorem d80_67 : decode (xcode 80) 67 = .ok (.if_icmp .lt 7, 3) := by decide +kernel
theorem d80_70 : decode (xcode 80) 70 = .ok (.iconst 1, 1) := by decide +kernel
theorem d80_71 : decode (xcode 80) 71 = .ok (.goto 4, 3) := by decide +kernel
theorem d80_74 : decode (xcode 80) 74 = .ok (.iconst 0, 1) := by decide +kernel
theorem d80_75 : decode (xcode 80) 75 = .ok (.ireturn, 1) := by decide +kernel
noncomputable def f_TrugReader_isTooMany_b53 (v1 : Int32) (h : xH) : Option Int32 :=
  if v1 = (14 : Int32) then (
  if (h.1 8 4 5) < (4 : Int32) then (
  some ((0 : Int32))) else (
  some ((1 : Int32)))) else (
  some ((0 : Int32)))
set_option maxHeartbeats 4000000 in
set_option maxRecDepth 100000 in
theorem f_TrugReader_isTooMany_b53_ok {g : xG} {l : Launch} {d : Nat} {v1 : Int32} {h : xH} {o : Int32} {R : Option xV} (hD : 0 ≤ d) (hf : f_TrugReader_isTooMany_b53 v1 h = some o) (K0 : ∀ (a : Int32), o = a → R = some (xi a)) : xEv g l d 80 53 [(0, xr 9 (some 0)), (1, xi v1)] [] h R h := by
  unfold f_TrugReader_isTooMany_b53 at hf
  refine xs_iload_n d80_53 rfl ?_
  refine xs_bipush (v := 14) d80_54 (by decide) ?_
  rcases lk_if hf with ⟨hc7, hf⟩ | ⟨hc7, hf⟩
  · refine xs_icmp_ne (tgt := 74) d80_56 (by decide) (fun _ => ?_) (fun hn => absurd hc7 hn)
    refine xs_aload_n d80_59 rfl ?_
    refine xe_getc (j := 5) d80_60 ky80 fl56 fk9_1 rfl ?_
    refine xe_geti d80_63 ky80 fl34 fk8_4 ?_
    refine xs_iconst (v := 4) d80_66 (by decide) ?_
    rcases lk_if hf with ⟨hc8, hf⟩ | ⟨hc8, hf⟩
    · refine xs_icmp_lt (tgt := 74) d80_67 (by decide) (fun _ => ?_) (fun hn => absurd hc8 hn)
      refine xs_iconst (v := 0) d80_74 (by decide) ?_
      obtain eR := K0 _ (Option.some.inj hf).symm
      subst eR
      exact xe_zret d80_75 (Or.inl rfl) rt80
    · refine xs_icmp_lt (tgt := 74) d80_67 (by decide) (fun hp => absurd hp hc8) (fun _ => ?_)
      refine xs_iconst (v := 1) d80_70 (by decide) ?_
      refine xs_goto (tgt := 75) d80_71 (by decide) ?_
      obtain eR := K0 _ (Option.some.inj hf).symm
      subst eR
      exact xe_zret d80_75 (Or.inr rfl) rt80
  · refine xs_icmp_ne (tgt := 74) d80_56 (by decide) (fun hp => absurd hp hc7) (fun _ => ?_)
    refine xs_iconst (v := 0) d80_74 (by decide) ?_
    obtain eR := K0 _ (Option.some.inj hf).symm
    subst eR
    exact xe_zret d80_75 (Or.inl rfl) rt80
noncomputable def f_TrugReader_isTooMany_b32 (v1 : Int32) (t0 : Int32) (t1 : Int32) (h : xH) : Option Int32 :=
  if t1 = t0 then (
  if v1 = (0 : Int32) then (
  if (8 : Int32) ≤ (h.1 8 3 5) then (
  some ((1 : Int32))) else (
  f_TrugReader_isTooMany_b53 v1 h)) else (
  f_TrugReader_isTooMany_b53 v1 h)) else (
  some ((1 : Int32)))
set_option maxHeartbeats 4000000 in
set_option maxRecDepth 100000 in
theorem f_TrugReader_isTooMany_b32_ok {g : xG} {l : Launch} {d : Nat} {v1 : Int32} {t0 : Int32} {t1 : Int32} {h : xH} {o : Int32} {R : Option xV} (hD : 0 ≤ d) (hf : f_TrugReader_isTooMany_b32 v1 t0 t1 h = some o) (K0 : ∀ (a : Int32), o = a → R = some (xi a)) : xEv g l d 80 32 [(0, xr 9 (some 0)), (1, xi v1)] [xi t0, xi t1] h R h := by
  unfold f_TrugReader_isTooMany_b32 at hf
  rcases lk_if hf with ⟨hc4, hf⟩ | ⟨hc4, hf⟩
  · refine xs_icmp_eq (tgt := 37) d80_32 (by decide) (fun _ => ?_) (fun hn => absurd hc4 hn)
    refine xs_iload_n d80_37 rfl ?_
    rcases lk_if hf with ⟨hc5, hf⟩ | ⟨hc5, hf⟩
    · refine xs_if_ne (tgt := 53) d80_38 (by decide) (fun _ => ?_) (fun hn => absurd hc5 hn)
      refine xs_aload_n d80_41 rfl ?_
      refine xe_getc (j := 5) d80_42 ky80 fl56 fk9_1 rfl ?_
      refine xe_geti d80_45 ky80 fl31 fk8_3 ?_
      refine xs_bipush (v := 8) d80_48 (by decide) ?_
      rcases lk_if hf with ⟨hc6, hf⟩ | ⟨hc6, hf⟩
      · refine xs_icmp_ge (tgt := 70) d80_50 (by decide) (fun _ => ?_) (fun hn => absurd hc6 hn)
        refine xs_iconst (v := 1) d80_70 (by decide) ?_
        refine xs_goto (tgt := 75) d80_71 (by decide) ?_
        obtain eR := K0 _ (Option.some.inj hf).symm
        subst eR
        exact xe_zret d80_75 (Or.inr rfl) rt80
      · refine xs_icmp_ge (tgt := 70) d80_50 (by decide) (fun hp => absurd hp hc6) (fun _ => ?_)
        exact f_TrugReader_isTooMany_b53_ok hD hf K0
    · refine xs_if_ne (tgt := 53) d80_38 (by decide) (fun hp => absurd hp hc5) (fun _ => ?_)
      exact f_TrugReader_isTooMany_b53_ok hD hf K0
  · refine xs_icmp_eq (tgt := 37) d80_32 (by decide) (fun hp => absurd hp hc4) (fun _ => ?_)
    refine xs_iconst (v := 1) d80_35 (by decide) ?_
    obtain eR := K0 _ (Option.some.inj hf).symm
    subst eR
    exact xe_zret d80_36 (Or.inr rfl) rt80
noncomputable def f_TrugReader_isTooMany_b20 (v1 : Int32) (t0 : Int32) (h : xH) : Option Int32 :=
  if (h.1 9 2 0) = (0 : Int32) then (
  f_TrugReader_isTooMany_b32 v1 (1 : Int32) t0 h) else (
  f_TrugReader_isTooMany_b32 v1 (0 : Int32) t0 h)
set_option maxHeartbeats 4000000 in
set_option maxRecDepth 100000 in
theorem f_TrugReader_isTooMany_b20_ok {g : xG} {l : Launch} {d : Nat} {v1 : Int32} {t0 : Int32} {h : xH} {o : Int32} {R : Option xV} (hD : 0 ≤ d) (hf : f_TrugReader_isTooMany_b20 v1 t0 h = some o) (K0 : ∀ (a : Int32), o = a → R = some (xi a)) : xEv g l d 80 20 [(0, xr 9 (some 0)), (1, xi v1)] [xi t0] h R h := by
  unfold f_TrugReader_isTooMany_b20 at hf
  refine xs_aload_n d80_20 rfl ?_
  refine xe_geti d80_21 ky80 fl57 fk9_2 ?_
  rcases lk_if hf with ⟨hc3, hf⟩ | ⟨hc3, hf⟩
  · refine xs_if_ne (tgt := 31) d80_24 (by decide) (fun _ => ?_) (fun hn => absurd hc3 hn)
    refine xs_iconst (v := 1) d80_27 (by decide) ?_
    refine xs_goto (tgt := 32) d80_28 (by decide) ?_
    exact f_TrugReader_isTooMany_b32_ok hD hf K0
  · refine xs_if_ne (tgt := 31) d80_24 (by decide) (fun hp => absurd hp hc3) (fun _ => ?_)
    refine xs_iconst (v := 0) d80_31 (by decide) ?_
    exact f_TrugReader_isTooMany_b32_ok hD hf K0
noncomputable def f_TrugReader_isTooMany_e (v1 : Int32) (h : xH) : Option Int32 :=
  if (40 : Int32) ≤ (h.1 9 2 0) then (
  some ((1 : Int32))) else (
  if v1 = (12 : Int32) then (
  f_TrugReader_isTooMany_b20 v1 (1 : Int32) h) else (
  f_TrugReader_isTooMany_b20 v1 (0 : Int32) h))
set_option maxHeartbeats 4000000 in
set_option maxRecDepth 100000 in
theorem f_TrugReader_isTooMany_e_ok {g : xG} {l : Launch} {d : Nat} {v1 : Int32} {h : xH} {o : Int32} {R : Option xV} (hD : 0 ≤ d) (hf : f_TrugReader_isTooMany_e v1 h = some o) (K0 : ∀ (a : Int32), o = a → R = some (xi a)) : xEv g l d 80 0 [(0, xr 9 (some 0)), (1, xi v1)] [] h R h := by
  unfold f_TrugReader_isTooMany_e at hf
  refine xs_aload_n d80_0 rfl ?_
  refine xe_geti d80_1 ky80 fl57 fk9_2 ?_
  refine xs_bipush (v := 40) d80_4 (by decide) ?_
  rcases lk_if hf with ⟨hc1, hf⟩ | ⟨hc1, hf⟩
  · refine xs_icmp_ge (tgt := 35) d80_6 (by decide) (fun _ => ?_) (fun hn => absurd hc1 hn)
    refine xs_iconst (v := 1) d80_35 (by decide) ?_
    obtain eR := K0 _ (Option.some.inj hf).symm
    subst eR
    exact xe_zret d80_36 (Or.inr rfl) rt80
  · refine xs_icmp_ge (tgt := 35) d80_6 (by decide) (fun hp => absurd hp hc1) (fun _ => ?_)
    refine xs_iload_n d80_9 rfl ?_
    refine xs_bipush (v := 12) d80_10 (by decide) ?_
    rcases lk_if hf with ⟨hc2, hf⟩ | ⟨hc2, hf⟩
    · refine xs_icmp_ne (tgt := 19) d80_12 (by decide) (fun _ => ?_) (fun hn => absurd hc2 hn)
      refine xs_iconst (v := 1) d80_15 (by decide) ?_
      refine xs_goto (tgt := 20) d80_16 (by decide) ?_
      exact f_TrugReader_isTooMany_b20_ok hD hf K0
    · refine xs_icmp_ne (tgt := 19) d80_12 (by decide) (fun hp => absurd hp hc2) (fun _ => ?_)
      refine xs_iconst (v := 0) d80_19 (by decide) ?_
      exact f_TrugReader_isTooMany_b20_ok hD hf K0
noncomputable def f_TrugReader_isTooMany (v1 : Int32) (h : xH) : Option Int32 := f_TrugReader_isTooMany_e v1 h
theorem f_TrugReader_isTooMany_ok {g : xG} {l : Launch} {d : Nat} {v1 : Int32} {h : xH} {r : Int32} (hD : 0 ≤ d) (hf : f_TrugReader_isTooMany v1 h = some r) : xC g l d 80 [xr 9 (some 0), xi v1] h (some (xi r)) h :=
  xC_of (by decide) (Nat.le_of_ble_eq_true rfl) (f_TrugReader_isTooMany_e_ok hD hf (fun _ e => by rw [e]))
theorem d81_0 : decode (xcode 81) 0 = .ok (.aload_n 0, 1) := by decide +kernel
theorem d81_1 : decode (xcode 81) 1 = .ok (.getfield 9, 3) := by decide +kernel
theorem d81_4 : decode (xcode 81) 4 = .ok (.getfield 47, 3) := by decide +kernel
theorem d81_7 : decode (xcode 81) 7 = .ok (.iconst 2, 1) := by decide +kernel
theorem d81_8 : decode (xcode 81) 8 = .ok (.if_icmp .eq 13, 3) := by decide +kernel
theorem d81_11 : decode (xcode 81) 11 = .ok (.aload_n 0, 1) := by decide +kernel
theorem d81_12 : decode (xcode 81) 12 = .ok (.getfield 9, 3) := by decide +kernel
theorem d81_15 : decode (xcode 81) 15 = .ok (.iconst 0, 1) := by decide +kernel
theorem d81_16 : decode (xcode 81) 16 = .ok (.invokevirtual 53, 3) := by decide +kernel
theorem d81_19 : decode (xcode 81) 19 = .ok (.iload_n 1, 1) := by decide +kernel
theorem d81_20 : decode (xcode 81) 20 = .ok (.ireturn, 1) := by decide +kernel
theorem d81_21 : decode (xcode 81) 21 = .ok (.aload_n 0, 1) := by decide +kernel
theorem d81_22 : decode (xcode 81) 22 = .ok (.getfield 9, 3) := by decide +kernel
theorem d81_25 : decode (xcode 81) 25 = .ok (.getfield 50, 3) := by decide +kernel
theorem d81_28 : decode (xcode 81) 28 = .ok (.istore_n 3, 1) := by decide +kernel
theorem d81_29 : decode (xcode 81) 29 = .ok (.iload_n 3, 1) := by decide +kernel
theorem d81_30 : decode (xcode 81) 30 = .ok (.iload_n 1, 1) := by decide +kernel
theorem d81_31 : decode (xcode 81) 31 = .ok (.if_icmp .lt 8, 3) := by decide +kernel
theorem d81_34 : decode (xcode 81) 34 = .ok (.iload_n 3, 1) := by decide +kernel
theorem d81_35 : decode (xcode 81) 35 = .ok (.iload_n 2, 1) := by decide +kernel
theorem d81_36 : decode (xcode 81) 36 = .ok (.if_icmp .le 13, 3) := by decide +kernel
theorem d81_39 : decode (xcode 81) 39 = .ok (.aload_n 0, 1) := by decide +kernel
theorem d81_40 : decode (xcode 81) 40 = .ok (.getfield 9, 3) := by decide +kernel
theorem d81_43 : decode (xcode 81) 43 = .ok (.iconst 1, 1) := by decide +kernel
theorem d81_44 : decode (xcode 81) 44 = .ok (.invokevirtual 53, 3) := by decide +kernel
theorem d81_47 : decode (xcode 81) 47 = .ok (.iload_n 1, 1) := by decide +kernel
theorem d81_48 : decode (xcode 81) 48 = .ok (.ireturn, 1) := by decide +kernel
theorem d81_49 : decode (xcode 81) 49 = .ok (.aload_n 0, 1) := by decide +kernel
theorem d81_50 : decode (xcode 81) 50 = .ok (.getfield 9, 3) := by decide +kernel
theorem d81_53 : decode (xcode 81) 53 = .ok (.invokevirtual 61, 3) := by decide +kernel
theorem d81_56 : decode (xcode 81) 56 = .ok (.iload_n 3, 1) := by decide +kernel
theorem d81_57 : decode (xcode 81) 57 = .ok (.ireturn, 1) := by decide +kernel
noncomputable def f_TrugReader_readNumber_b39 (v1 : Int32) (h : xH) : Option (Int32 × xH) :=
  (f_Tape_fail (1 : Int32) h).bind fun h6 =>
  some ((v1, h6))
set_option maxHeartbeats 4000000 in
set_option maxRecDepth 100000 in
theorem f_TrugReader_readNumber_b39_ok {g : xG} {l : Launch} {d : Nat} {v1 : Int32} {h : xH} {o : (Int32 × xH)} {R : Option xV} {H' : xH} (hD : 1 ≤ d) (hf : f_TrugReader_readNumber_b39 v1 h = some o) (K0 : ∀ (a : Int32) (h1 : xH), o = (a, h1) → R = some (xi a) ∧ H' = h1) : xEv g l d 81 39 [(0, xr 9 (some 0)), (1, xi v1)] [] h R H' := by
  unfold f_TrugReader_readNumber_b39 at hf
  refine xs_aload_n d81_39 rfl ?_
  refine xe_getc (j := 0) d81_40 ky81 fl55 fk9_0 rfl ?_
  refine xs_iconst (v := 1) d81_43 (by decide) ?_
  obtain ⟨h6, hc5, hf⟩ := lk_b hf
  refine xe_callv0 (as := [xi (1 : Int32)]) (st := []) (h2 := h6) (d2 := d - 1) d81_44 ky81 ml19 st70 (by decide) cn70 rfl na70 (Nat.le_of_ble_eq_true rfl) (by omega) (f_Tape_fail_ok (by omega) hc5) ?_
  refine xs_iload_n d81_47 rfl ?_
  obtain ⟨eR, eH⟩ := K0 _ _ (Option.some.inj hf).symm
  subst eR; subst eH
  exact xs_iret d81_48 rt81
noncomputable def f_TrugReader_readNumber_e (v1 : Int32) (v2 : Int32) (h : xH) : Option (Int32 × xH) :=
  if (h.1 7 7 0) = (2 : Int32) then (
  xlet (h.1 7 8 0) fun v3_2 =>
  if v3_2 < v1 then (
  f_TrugReader_readNumber_b39 v1 h) else (
  if v3_2 ≤ v2 then (
  (f_Tape_goOn h).bind fun h10 =>
  some ((v3_2, h10))) else (
  f_TrugReader_readNumber_b39 v1 h))) else (
  (f_Tape_fail (0 : Int32) h).bind fun h13 =>
  some ((v1, h13)))
set_option maxHeartbeats 4000000 in
set_option maxRecDepth 100000 in
theorem f_TrugReader_readNumber_e_ok {g : xG} {l : Launch} {d : Nat} {v1 : Int32} {v2 : Int32} {h : xH} {o : (Int32 × xH)} {R : Option xV} {H' : xH} (hD : 1 ≤ d) (hf : f_TrugReader_readNumber_e v1 v2 h = some o) (K0 : ∀ (a : Int32) (h1 : xH), o = (a, h1) → R = some (xi a) ∧ H' = h1) : xEv g l d 81 0 [(0, xr 9 (some 0)), (1, xi v1), (2, xi v2)] [] h R H' := by
  unfold f_TrugReader_readNumber_e at hf
  refine xs_aload_n d81_0 rfl ?_
  refine xe_getc (j := 0) d81_1 ky81 fl55 fk9_0 rfl ?_
  refine xe_geti d81_4 ky81 fl8 fk7_7 ?_
  refine xs_iconst (v := 2) d81_7 (by decide) ?_
  rcases lk_if hf with ⟨hc1, hf⟩ | ⟨hc1, hf⟩
  · refine xs_icmp_eq (tgt := 21) d81_8 (by decide) (fun _ => ?_) (fun hn => absurd hc1 hn)
    refine xs_aload_n d81_21 rfl ?_
    refine xe_getc (j := 0) d81_22 ky81 fl55 fk9_0 rfl ?_
    refine xe_geti d81_25 ky81 fl11 fk7_8 ?_
    obtain ⟨v3_2, ev3_2, hf⟩ := lk_let hf
    refine xe_istore_n (v := v3_2) (ls2 := [(0, xr 9 (some 0)), (1, xi v1), (2, xi v2), (3, xi v3_2)]) d81_28 mx81 (by decide) ev3_2 rfl ?_
    refine xs_iload_n d81_29 rfl ?_
    refine xs_iload_n d81_30 rfl ?_
    rcases lk_if hf with ⟨hc3, hf⟩ | ⟨hc3, hf⟩
    · refine xs_icmp_lt (tgt := 39) d81_31 (by decide) (fun _ => ?_) (fun hn => absurd hc3 hn)
      refine xs_pick [0, 1] rfl ?_
      exact f_TrugReader_readNumber_b39_ok hD hf K0
    · refine xs_icmp_lt (tgt := 39) d81_31 (by decide) (fun hp => absurd hp hc3) (fun _ => ?_)
      refine xs_iload_n d81_34 rfl ?_
      refine xs_iload_n d81_35 rfl ?_
      rcases lk_if hf with ⟨hc7, hf⟩ | ⟨hc7, hf⟩
      · refine xs_icmp_le (tgt := 49) d81_36 (by decide) (fun _ => ?_) (fun hn => absurd hc7 hn)
        refine xs_aload_n d81_49 rfl ?_
        refine xe_getc (j := 0) d81_50 ky81 fl55 fk9_0 rfl ?_
        obtain ⟨h10, hc9, hf⟩ := lk_b hf
        refine xe_callv0 (as := []) (st := []) (h2 := h10) (d2 := d - 1) d81_53 ky81 ml21 st68 (by decide) cn68 rfl na68 (Nat.le_of_ble_eq_true rfl) (by omega) (f_Tape_goOn_ok (by omega) hc9) ?_
        refine xs_iload_n d81_56 rfl ?_
        obtain ⟨eR, eH⟩ := K0 _ _ (Option.some.inj hf).symm
        subst eR; subst eH
        exact xs_iret d81_57 rt81
      · refine xs_icmp_le (tgt := 49) d81_36 (by decide) (fun hp => absurd hp hc7) (fun _ => ?_)
        refine xs_pick [0, 1] rfl ?_
        exact f_TrugReader_readNumber_b39_ok hD hf K0
  · refine xs_icmp_eq (tgt := 21) d81_8 (by decide) (fun hp => absurd hp hc1) (fun _ => ?_)
    refine xs_aload_n d81_11 rfl ?_
    refine xe_getc (j := 0) d81_12 ky81 fl55 fk9_0 rfl ?_
    refine xs_iconst (v := 0) d81_15 (by decide) ?_
    obtain ⟨h13, hc12, hf⟩ := lk_b hf
    refine xe_callv0 (as := [xi (0 : Int32)]) (st := []) (h2 := h13) (d2 := d - 1) d81_16 ky81 ml19 st70 (by decide) cn70 rfl na70 (Nat.le_of_ble_eq_true rfl) (by omega) (f_Tape_fail_ok (by omega) hc12) ?_
    refine xs_iload_n d81_19 rfl ?_
    obtain ⟨eR, eH⟩ := K0 _ _ (Option.some.inj hf).symm
    subst eR; subst eH
    exact xs_iret d81_20 rt81
noncomputable def f_TrugReader_readNumber (v1 : Int32) (v2 : Int32) (h : xH) : Option (Int32 × xH) := f_TrugReader_readNumber_e v1 v2 h
theorem f_TrugReader_readNumber_ok {g : xG} {l : Launch} {d : Nat} {v1 : Int32} {v2 : Int32} {h : xH} {r : Int32} {h1 : xH} (hD : 1 ≤ d) (hf : f_TrugReader_readNumber v1 v2 h = some (r, h1)) : xC g l d 81 [xr 9 (some 0), xi v1, xi v2] h (some (xi r)) h1 :=
  xC_of (by decide) (Nat.le_of_ble_eq_true rfl) (f_TrugReader_readNumber_e_ok hD hf (fun _ _ e => by cases e; exact ⟨rfl, rfl⟩))
theorem d82_0 : decode (xcode 82) 0 = .ok (.aload_n 0, 1) := by decide +kernel
theorem d82_1 : decode (xcode 82) 1 = .ok (.iconst 1, 1) := by decide +kernel
theorem d82_2 : decode (xcode 82) 2 = .ok (.bipush 20, 2) := by decide +kernel
theorem d82_4 : decode (xcode 82) 4 = .ok (.invokevirtual 64, 3) := by decide +kernel
theorem d82_7 : decode (xcode 82) 7 = .ok (.istore_n 1, 1) := by decide +kernel
theorem d82_8 : decode (xcode 82) 8 = .ok (.aload_n 0, 1) := by decide +kernel
theorem d82_9 : decode (xcode 82) 9 = .ok (.iconst 1, 1) := by decide +kernel
theorem d82_10 : decode (xcode 82) 10 = .ok (.bipush 40, 2) := by decide +kernel
theorem d82_12 : decode (xcode 82) 12 = .ok (.invokevirtual 64, 3) := by decide +kernel
theorem d82_15 : decode (xcode 82) 15 = .ok (.istore_n 2, 1) := by decide +kernel
theorem d82_16 : decode (xcode 82) 16 = .ok (.aload_n 0, 1) := by decide +kernel
theorem d82_17 : decode (xcode 82) 17 = .ok (.iconst 0, 1) := by decide +kernel
theorem d82_18 : decode (xcode 82) 18 = .ok (.bipush 30, 2) := by decide +kernel
theorem d82_20 : decode (xcode 82) 20 = .ok (.invokevirtual 64, 3) := by decide +kernel
theorem d82_23 : decode (xcode 82) 23 = .ok (.istore_n 3, 1) := by decide +kernel
theorem d82_24 : decode (xcode 82) 24 = .ok (.aload_n 0, 1) := by decide +kernel
theorem d82_25 : decode (xcode 82) 25 = .ok (.getfield 9, 3) := by decide +kernel
theorem d82_28 : decode (xcode 82) 28 = .ok (.invokevirtual 89, 3) := by decide +kernel
theorem d82_31 : decode (xcode 82) 31 = .ok (.ifCond .eq 86, 3) := by decide +kernel
theorem d82_34 : decode (xcode 82) 34 = .ok (.aload_n 0, 1) := by decide +kernel
theorem d82_35 : decode (xcode 82) 35 = .ok (.getfield 15, 3) := by decide +kernel
theorem d82_38 : decode (xcode 82) 38 = .ok (.getfield 83, 3) := by decide +kernel
theorem d82_41 : decode (xcode 82) 41 = .ok (.ifCond .lt 76, 3) := by decide +kernel
theorem d82_44 : decode (xcode 82) 44 = .ok (.aload_n 0, 1) := by decide +kernel
theorem d82_45 : decode (xcode 82) 45 = .ok (.getfield 15, 3) := by decide +kernel
theorem d82_48 : decode (xcode 82) 48 = .ok (.getfield 83, 3) := by decide +kernel
theorem d82_51 : decode (xcode 82) 51 = .ok (.bipush 8, 2) := by decide +kernel
theorem d82_53 : decode (xcode 82) 53 = .ok (.if_icmp .ge 64, 3) := by decide +kernel
theorem d82_56 : decode (xcode 82) 56 = .ok (.aload_n 0, 1) := by decide +kernel
theorem d82_57 : decode (xcode 82) 57 = .ok (.getfield 15, 3) := by decide +kernel
theorem d82_60 : decode (xcode 82) 60 = .ok (.getfield 92, 3) := by decide +kernel
theorem d82_63 : decode (xcode 82) 63 = .ok (.aload_n 0, 1) := by decide +kernel
theorem d82_64 : decode (xcode 82) 64 = .ok (.getfield 15, 3) := by decide +kernel
theorem d82_67 : decode (xcode 82) 67 = .ok (.getfield 83, 3) := by decide +kernel
theorem d82_70 : decode (xcode 82) 70 = .ok (.iload_n 1, 1) := by decide +kernel
theorem d82_71 : decode (xcode 82) 71 = .ok (.iastore, 1) := by decide +kernel
theorem d82_72 : decode (xcode 82) 72 = .ok (.aload_n 0, 1) := by decide +kernel
theorem d82_73 : decode (xcode 82) 73 = .ok (.getfield 15, 3) := by decide +kernel
theorem d82_76 : decode (xcode 82) 76 = .ok (.getfield 96, 3) := by decide +kernel
theorem d82_79 : decode (xcode 82) 79 = .ok (.aload_n 0, 1) := by decide +kernel
theorem d82_80 : decode (xcode 82) 80 = .ok (.getfield 15, 3) := by decide +kernel
theorem d82_83 : decode (xcode 82) 83 = .ok (.getfield 83, 3) := by decide +kernel
theorem d82_86 : decode (xcode 82) 86 = .ok (.iload_n 2, 1) := by decide +kernel
theorem d82_87 : decode (xcode 82) 87 = .ok (.iastore, 1) := by decide +kernel
theorem d82_88 : decode (xcode 82) 88 = .ok (.aload_n 0, 1) := by decide +kernel
theorem d82_89 : decode (xcode 82) 89 = .ok (.getfield 15, 3) := by decide +kernel
theorem d82_92 : decode (xcode 82) 92 = .ok (.getfield 99, 3) := by decide +kernel
theorem d82_95 : decode (xcode 82) 95 = .ok (.aload_n 0, 1) := by decide +kernel
theorem d82_96 : decode (xcode 82) 96 = .ok (.getfield 15, 3) := by decide +kernel
theorem d82_99 : decode (xcode 82) 99 = .ok (.getfield 83, 3) := by decide +kernel
theorem d82_102 : decode (xcode 82) 102 = .ok (.iload_n 3, 1) := by decide +kernel
theorem d82_103 : decode (xcode 82) 103 = .ok (.iastore, 1) := by decide +kernel
theorem d82_104 : decode (xcode 82) 104 = .ok (.aload_n 0, 1) := by decide +kernel
theorem d82_105 : decode (xcode 82) 105 = .ok (.getfield 15, 3) := by decide +kernel
theorem d82_108 : decode (xcode 82) 108 = .ok (.dup, 1) := by decide +kernel
theorem d82_109 : decode (xcode 82) 109 = .ok (.getfield 83, 3) := by decide +kernel
theorem d82_112 : decode (xcode 82) 112 = .ok (.iconst 1, 1) := by decide +kernel
theorem d82_113 : decode (xcode 82) 113 = .ok (.iadd, 1) := by decide +kernel
theorem d82_114 : decode (xcode 82) 114 = .ok (.putfield 83, 3) := by decide +kernel
theorem d82_117 : decode (xcode 82) 117 = .ok (.return_, 1) := by decide +kernel
noncomputable def f_TrugReader_readSorrow_e (h : xH) : Option xH :=
  (f_TrugReader_readNumber (1 : Int32) (20 : Int32) h).bind fun q3 =>
  (f_TrugReader_readNumber (1 : Int32) (40 : Int32) q3.2).bind fun q6 =>
  (f_TrugReader_readNumber (0 : Int32) (30 : Int32) q6.2).bind fun q9 =>
  (f_Tape_isWell q9.2).bind fun r10 =>
  if r10 = (0 : Int32) then (
  some (q9.2)) else (
  if (q9.2.1 8 3 5) < (0 : Int32) then (
  some (q9.2)) else (
  if (8 : Int32) ≤ (q9.2.1 8 3 5) then (
  some (q9.2)) else (
  if xib (q9.2.1 8 3 5) 8 then (
  xlet (xsA q9.2 37 5 (upd (q9.2.2.2.2.1 37 5) (q9.2.1 8 3 5).toNatClampNeg q3.1)) fun h16 =>
  if xib (h16.1 8 3 5) 8 then (
  xlet (xsA h16 38 5 (upd (h16.2.2.2.1 38 5) (h16.1 8 3 5).toNatClampNeg q6.1)) fun h18 =>
  if xib (h18.1 8 3 5) 8 then (
  xlet (xsA h18 39 5 (upd (h18.2.2.2.1 39 5) (h18.1 8 3 5).toNatClampNeg q9.1)) fun h20 =>
  xlet (xsI h20 8 3 5 ((h20.1 8 3 5) + (1 : Int32))) fun h21 =>
  some (h21)) else none) else none) else none)))
set_option maxHeartbeats 4000000 in
set_option maxRecDepth 100000 in
theorem f_TrugReader_readSorrow_e_ok {g : xG} {l : Launch} {d : Nat} {h : xH} {o : xH} {R : Option xV} {H' : xH} (hD : 2 ≤ d) (hf : f_TrugReader_readSorrow_e h = some o) (K0 : ∀ (h1 : xH), o = h1 → R = none ∧ H' = h1) : xEv g l d 82 0 [(0, xr 9 (some 0))] [] h R H' := by
  unfold f_TrugReader_readSorrow_e at hf
  refine xs_aload_n d82_0 rfl ?_
  refine xs_iconst (v := 1) d82_1 (by decide) ?_
  refine xs_bipush (v := 20) d82_2 (by decide) ?_
  obtain ⟨q3, hc2, hf⟩ := lk_b hf
  refine xe_callv1 (as := [xi (1 : Int32), xi (20 : Int32)]) (st := []) (h2 := q3.2) (d2 := d - 1) d82_4 ky82 ml22 st81 (by decide) cn81 rfl na81 (Nat.le_of_ble_eq_true rfl) (by omega) (f_TrugReader_readNumber_ok (by omega) hc2) ?_
  refine xe_istore_n (v := q3.1) (ls2 := [(0, xr 9 (some 0)), (1, xi q3.1)]) d82_7 mx82 (by decide) rfl rfl ?_
  refine xs_aload_n d82_8 rfl ?_
  refine xs_iconst (v := 1) d82_9 (by decide) ?_
  refine xs_bipush (v := 40) d82_10 (by decide) ?_
  obtain ⟨q6, hc5, hf⟩ := lk_b hf
  refine xe_callv1 (as := [xi (1 : Int32), xi (40 : Int32)]) (st := []) (h2 := q6.2) (d2 := d - 1) d82_12 ky82 ml22 st81 (by decide) cn81 rfl na81 (Nat.le_of_ble_eq_true rfl) (by omega) (f_TrugReader_readNumber_ok (by omega) hc5) ?_
  refine xe_istore_n (v := q6.1) (ls2 := [(0, xr 9 (some 0)), (1, xi q3.1), (2, xi q6.1)]) d82_15 mx82 (by decide) rfl rfl ?_
  refine xs_aload_n d82_16 rfl ?_
  refine xs_iconst (v := 0) d82_17 (by decide) ?_
  refine xs_bipush (v := 30) d82_18 (by decide) ?_
  obtain ⟨q9, hc8, hf⟩ := lk_b hf
  refine xe_callv1 (as := [xi (0 : Int32), xi (30 : Int32)]) (st := []) (h2 := q9.2) (d2 := d - 1) d82_20 ky82 ml22 st81 (by decide) cn81 rfl na81 (Nat.le_of_ble_eq_true rfl) (by omega) (f_TrugReader_readNumber_ok (by omega) hc8) ?_
  refine xe_istore_n (v := q9.1) (ls2 := [(0, xr 9 (some 0)), (1, xi q3.1), (2, xi q6.1), (3, xi q9.1)]) d82_23 mx82 (by decide) rfl rfl ?_
  refine xs_aload_n d82_24 rfl ?_
  refine xe_getc (j := 0) d82_25 ky82 fl55 fk9_0 rfl ?_
  obtain ⟨r10, hc11, hf⟩ := lk_b hf
  refine xe_callv1 (as := []) (st := []) (h2 := q9.2) (d2 := d - 1) d82_28 ky82 ml24 st69 (by decide) cn69 rfl na69 (Nat.le_of_ble_eq_true rfl) (by omega) (f_Tape_isWell_ok (by omega) hc11) ?_
  rcases lk_if hf with ⟨hc12, hf⟩ | ⟨hc12, hf⟩
  · refine xs_if_eq (tgt := 117) d82_31 (by decide) (fun _ => ?_) (fun hn => absurd hc12 hn)
    obtain ⟨eR, eH⟩ := K0 _ (Option.some.inj hf).symm
    subst eR; subst eH
    exact xs_vret d82_117 rt82
  · refine xs_if_eq (tgt := 117) d82_31 (by decide) (fun hp => absurd hp hc12) (fun _ => ?_)
    refine xs_aload_n d82_34 rfl ?_
    refine xe_getc (j := 5) d82_35 ky82 fl56 fk9_1 rfl ?_
    refine xe_geti d82_38 ky82 fl31 fk8_3 ?_
    rcases lk_if hf with ⟨hc13, hf⟩ | ⟨hc13, hf⟩
    · refine xs_if_lt (tgt := 117) d82_41 (by decide) (fun _ => ?_) (fun hn => absurd hc13 hn)
      obtain ⟨eR, eH⟩ := K0 _ (Option.some.inj hf).symm
      subst eR; subst eH
      exact xs_vret d82_117 rt82
    · refine xs_if_lt (tgt := 117) d82_41 (by decide) (fun hp => absurd hp hc13) (fun _ => ?_)
      refine xs_aload_n d82_44 rfl ?_
      refine xe_getc (j := 5) d82_45 ky82 fl56 fk9_1 rfl ?_
      refine xe_geti d82_48 ky82 fl31 fk8_3 ?_
      refine xs_bipush (v := 8) d82_51 (by decide) ?_
      rcases lk_if hf with ⟨hc14, hf⟩ | ⟨hc14, hf⟩
      · refine xs_icmp_ge (tgt := 117) d82_53 (by decide) (fun _ => ?_) (fun hn => absurd hc14 hn)
        obtain ⟨eR, eH⟩ := K0 _ (Option.some.inj hf).symm
        subst eR; subst eH
        exact xs_vret d82_117 rt82
      · refine xs_icmp_ge (tgt := 117) d82_53 (by decide) (fun hp => absurd hp hc14) (fun _ => ?_)
        refine xs_aload_n d82_56 rfl ?_
        refine xe_getc (j := 5) d82_57 ky82 fl56 fk9_1 rfl ?_
        refine xe_getc (j := 5) d82_60 ky82 fl39 fk8_5 rfl ?_
        refine xs_aload_n d82_63 rfl ?_
        refine xe_getc (j := 5) d82_64 ky82 fl56 fk9_1 rfl ?_
        refine xe_geti d82_67 ky82 fl31 fk8_3 ?_
        refine xs_iload_n d82_70 rfl ?_
        obtain ⟨hin15, hf⟩ := lk_g hf
        obtain ⟨h16, eh16, hf⟩ := lk_let hf
        refine xe_iast d82_71 (by decide) ak37 hin15  eh16 ?_
        refine xs_aload_n d82_72 rfl ?_
        refine xe_getc (j := 5) d82_73 ky82 fl56 fk9_1 rfl ?_
        refine xe_getc (j := 5) d82_76 ky82 fl42 fk8_6 rfl ?_
        refine xs_aload_n d82_79 rfl ?_
        refine xe_getc (j := 5) d82_80 ky82 fl56 fk9_1 rfl ?_
        refine xe_geti d82_83 ky82 fl31 fk8_3 ?_
        refine xs_iload_n d82_86 rfl ?_
        obtain ⟨hin17, hf⟩ := lk_g hf
        obtain ⟨h18, eh18, hf⟩ := lk_let hf
        refine xe_iast d82_87 (by decide) ak38 hin17  eh18 ?_
        refine xs_aload_n d82_88 rfl ?_
        refine xe_getc (j := 5) d82_89 ky82 fl56 fk9_1 rfl ?_
        refine xe_getc (j := 5) d82_92 ky82 fl45 fk8_7 rfl ?_
        refine xs_aload_n d82_95 rfl ?_
        refine xe_getc (j := 5) d82_96 ky82 fl56 fk9_1 rfl ?_
        refine xe_geti d82_99 ky82 fl31 fk8_3 ?_
        refine xs_iload_n d82_102 rfl ?_
        obtain ⟨hin19, hf⟩ := lk_g hf
        obtain ⟨h20, eh20, hf⟩ := lk_let hf
        refine xe_iast d82_103 (by decide) ak39 hin19  eh20 ?_
        refine xs_aload_n d82_104 rfl ?_
        refine xe_getc (j := 5) d82_105 ky82 fl56 fk9_1 rfl ?_
        refine xs_dup d82_108 rfl ?_
        refine xe_geti d82_109 ky82 fl31 fk8_3 ?_
        refine xs_iconst (v := 1) d82_112 (by decide) ?_
        refine xs_iadd d82_113 ?_
        obtain ⟨h21, eh21, hf⟩ := lk_let hf
        refine xe_puti d82_114 ky82 fl31 fk8_3 ft8_3 eh21 ?_
        obtain ⟨eR, eH⟩ := K0 _ (Option.some.inj hf).symm
        subst eR; subst eH
        exact xs_vret d82_117 rt82
noncomputable def f_TrugReader_readSorrow (h : xH) : Option xH := f_TrugReader_readSorrow_e h
theorem f_TrugReader_readSorrow_ok {g : xG} {l : Launch} {d : Nat} {h : xH} {h1 : xH} (hD : 2 ≤ d) (hf : f_TrugReader_readSorrow h = some h1) : xC g l d 82 [xr 9 (some 0)] h none h1 :=
  xC_of (by decide) (Nat.le_of_ble_eq_true rfl) (f_TrugReader_readSorrow_e_ok hD hf (fun _ e => ⟨rfl, e⟩))
theorem d83_0 : decode (xcode 83) 0 = .ok (.aload_n 0, 1) := by decide +kernel
theorem d83_1 : decode (xcode 83) 1 = .ok (.iconst 0, 1) := by decide +kernel
theorem d83_2 : decode (xcode 83) 2 = .ok (.aload_n 0, 1) := by decide +kernel
theorem d83_3 : decode (xcode 83) 3 = .ok (.getfield 15, 3) := by decide +kernel
theorem d83_6 : decode (xcode 83) 6 = .ok (.getfield 83, 3) := by decide +kernel
theorem d83_9 : decode (xcode 83) 9 = .ok (.iconst 1, 1) := by decide +kernel
theorem d83_10 : decode (xcode 83) 10 = .ok (.isub, 1) := by decide +kernel
theorem d83_11 : decode (xcode 83) 11 = .ok (.invokevirtual 64, 3) := by decide +kernel
theorem d83_14 : decode (xcode 83) 14 = .ok (.istore_n 1, 1) := by decide +kernel
theorem d83_15 : decode (xcode 83) 15 = .ok (.aload_n 0, 1) := by decide +kernel
theorem d83_16 : decode (xcode 83) 16 = .ok (.getfield 9, 3) := by decide +kernel
theorem d83_19 : decode (xcode 83) 19 = .ok (.getfield 47, 3) := by decide +kernel
theorem d83_22 : decode (xcode 83) 22 = .ok (.iconst 2, 1) := by decide +kernel
theorem d83_23 : decode (xcode 83) 23 = .ok (.if_icmp .ne 22, 3) := by decide +kernel
theorem d83_26 : decode (xcode 83) 26 = .ok (.aload_n 0, 1) := by decide +kernel
theorem d83_27 : decode (xcode 83) 27 = .ok (.getfield 9, 3) := by decide +kernel
theorem d83_30 : decode (xcode 83) 30 = .ok (.getfield 50, 3) := by decide +kernel
theorem d83_33 : decode (xcode 83) 33 = .ok (.iload_n 1, 1) := by decide +kernel
theorem d83_34 : decode (xcode 83) 34 = .ok (.if_icmp .ne 11, 3) := by decide +kernel
theorem d83_37 : decode (xcode 83) 37 = .ok (.aload_n 0, 1) := by decide +kernel
theorem d83_38 : decode (xcode 83) 38 = .ok (.getfield 9, 3) := by decide +kernel
theorem d83_41 : decode (xcode 83) 41 = .ok (.iconst 1, 1) := by decide +kernel
theorem d83_42 : decode (xcode 83) 42 = .ok (.invokevirtual 53, 3) := by decide +kernel
theorem d83_45 : decode (xcode 83) 45 = .ok (.aload_n 0, 1) := by decide +kernel
theorem d83_46 : decode (xcode 83) 46 = .ok (.iconst 0, 1) := by decide +kernel
theorem d83_47 : decode (xcode 83) 47 = .ok (.aload_n 0, 1) := by decide +kernel
theorem d83_48 : decode (xcode 83) 48 = .ok (.getfield 15, 3) := by decide +kernel
theorem d83_51 : decode (xcode 83) 51 = .ok (.getfield 83, 3) := by decide +kernel
theorem d83_54 : decode (xcode 83) 54 = .ok (.iconst 1, 1) := by decide +kernel
theorem d83_55 : decode (xcode 83) 55 = .ok (.isub, 1) := by decide +kernel
theorem d83_56 : decode (xcode 83) 56 = .ok (.invokevirtual 64, 3) := by decide +kernel
theorem d83_59 : decode (xcode 83) 59 = .ok (.istore_n 2, 1) := by decide +kernel
theorem d83_60 : decode (xcode 83) 60 = .ok (.aload_n 0, 1) := by decide +kernel
theorem d83_61 : decode (xcode 83) 61 = .ok (.getfield 9, 3) := by decide +kernel
theorem d83_64 : decode (xcode 83) 64 = .ok (.invokevirtual 89, 3) := by decide +kernel
theorem d83_67 : decode (xcode 83) 67 = .ok (.ifCond .eq 29, 3) := by decide +kernel
theorem d83_70 : decode (xcode 83) 70 = .ok (.aload_n 0, 1) := by decide +kernel
theorem d83_71 : decode (xcode 83) 71 = .ok (.getfield 15, 3) := by decide +kernel
theorem d83_74 : decode (xcode 83) 74 = .ok (.iload_n 1, 1) := by decide +kernel
theorem d83_75 : decode (xcode 83) 75 = .ok (.invokevirtual 102, 3) := by decide +kernel
theorem d83_78 : decode (xcode 83) 78 = .ok (.ifCond .eq 18, 3) := by decide +kernel
theorem d83_81 : decode (xcode 83) 81 = .ok (.aload_n 0, 1) := by decide +kernel
theorem d83_82 : decode (xcode 83) 82 = .ok (.getfield 15, 3) := by decide +kernel
theorem d83_85 : decode (xcode 83) 85 = .ok (.getfield 105, 3) := by decide +kernel
theorem d83_88 : decode (xcode 83) 88 = .ok (.iload_n 1, 1) := by decide +kernel
theorem d83_89 : decode (xcode 83) 89 = .ok (.dup2, 1) := by decide +kernel
theorem d83_90 : decode (xcode 83) 90 = .ok (.iaload, 1) := by decide +kernel
theorem d83_91 : decode (xcode 83) 91 = .ok (.iconst 1, 1) := by decide +kernel
theorem d83_92 : decode (xcode 83) 92 = .ok (.iload_n 2, 1) := by decide +kernel
theorem d83_93 : decode (xcode 83) 93 = .ok (.ishl, 1) := by decide +kernel
theorem d83_94 : decode (xcode 83) 94 = .ok (.ior, 1) := by decide +kernel
theorem d83_95 : decode (xcode 83) 95 = .ok (.iastore, 1) := by decide +kernel
theorem d83_96 : decode (xcode 83) 96 = .ok (.return_, 1) := by decide +kernel
noncomputable def f_TrugReader_readUnder_b45 (v1 : Int32) (h : xH) : Option xH :=
  (f_TrugReader_readNumber (0 : Int32) ((h.1 8 3 5) - (1 : Int32)) h).bind fun q11 =>
  (f_Tape_isWell q11.2).bind fun r12 =>
  if r12 = (0 : Int32) then (
  some (q11.2)) else (
  (f_Told_hasSorrow 5 v1 q11.2).bind fun r15 =>
  if r15 = (0 : Int32) then (
  some (q11.2)) else (
  if xib v1 8 then (
  if xib v1 8 then (
  xlet (xsA q11.2 40 5 (upd (q11.2.2.2.2.1 40 5) (v1).toNatClampNeg ((q11.2.2.2.2.1 40 5 (v1).toNatClampNeg) ||| ((1 : Int32) <<< (q11.1 &&& 31))))) fun h20 =>
  some (h20)) else none) else none))
set_option maxHeartbeats 4000000 in
set_option maxRecDepth 100000 in
theorem f_TrugReader_readUnder_b45_ok {g : xG} {l : Launch} {d : Nat} {v1 : Int32} {h : xH} {o : xH} {R : Option xV} {H' : xH} (hD : 2 ≤ d) (hf : f_TrugReader_readUnder_b45 v1 h = some o) (K0 : ∀ (h1 : xH), o = h1 → R = none ∧ H' = h1) : xEv g l d 83 45 [(0, xr 9 (some 0)), (1, xi v1)] [] h R H' := by
  unfold f_TrugReader_readUnder_b45 at hf
  refine xs_aload_n d83_45 rfl ?_
  refine xs_iconst (v := 0) d83_46 (by decide) ?_
  refine xs_aload_n d83_47 rfl ?_
  refine xe_getc (j := 5) d83_48 ky83 fl56 fk9_1 rfl ?_
  refine xe_geti d83_51 ky83 fl31 fk8_3 ?_
  refine xs_iconst (v := 1) d83_54 (by decide) ?_
  refine xs_isub d83_55 ?_
  obtain ⟨q11, hc10, hf⟩ := lk_b hf
  refine xe_callv1 (as := [xi (0 : Int32), xi ((h.1 8 3 5) - (1 : Int32))]) (st := []) (h2 := q11.2) (d2 := d - 1) d83_56 ky83 ml22 st81 (by decide) cn81 rfl na81 (Nat.le_of_ble_eq_true rfl) (by omega) (f_TrugReader_readNumber_ok (by omega) hc10) ?_
  refine xe_istore_n (v := q11.1) (ls2 := [(0, xr 9 (some 0)), (1, xi v1), (2, xi q11.1)]) d83_59 mx83 (by decide) rfl rfl ?_
  refine xs_aload_n d83_60 rfl ?_
  refine xe_getc (j := 0) d83_61 ky83 fl55 fk9_0 rfl ?_
  obtain ⟨r12, hc13, hf⟩ := lk_b hf
  refine xe_callv1 (as := []) (st := []) (h2 := q11.2) (d2 := d - 1) d83_64 ky83 ml24 st69 (by decide) cn69 rfl na69 (Nat.le_of_ble_eq_true rfl) (by omega) (f_Tape_isWell_ok (by omega) hc13) ?_
  rcases lk_if hf with ⟨hc14, hf⟩ | ⟨hc14, hf⟩
  · refine xs_if_eq (tgt := 96) d83_67 (by decide) (fun _ => ?_) (fun hn => absurd hc14 hn)
    obtain ⟨eR, eH⟩ := K0 _ (Option.some.inj hf).symm
    subst eR; subst eH
    exact xs_vret d83_96 rt83
  · refine xs_if_eq (tgt := 96) d83_67 (by decide) (fun hp => absurd hp hc14) (fun _ => ?_)
    refine xs_aload_n d83_70 rfl ?_
    refine xe_getc (j := 5) d83_71 ky83 fl56 fk9_1 rfl ?_
    refine xs_iload_n d83_74 rfl ?_
    obtain ⟨r15, hc16, hf⟩ := lk_b hf
    refine xe_callv1 (as := [xi v1]) (st := []) (h2 := q11.2) (d2 := d - 1) d83_75 ky83 ml26 st76 (by decide) cn76 rfl na76 (Nat.le_of_ble_eq_true rfl) (by omega) (f_Told_hasSorrow_ok (by omega) hc16) ?_
    rcases lk_if hf with ⟨hc17, hf⟩ | ⟨hc17, hf⟩
    · refine xs_if_eq (tgt := 96) d83_78 (by decide) (fun _ => ?_) (fun hn => absurd hc17 hn)
      obtain ⟨eR, eH⟩ := K0 _ (Option.some.inj hf).symm
      subst eR; subst eH
      exact xs_vret d83_96 rt83
    · refine xs_if_eq (tgt := 96) d83_78 (by decide) (fun hp => absurd hp hc17) (fun _ => ?_)
      refine xs_aload_n d83_81 rfl ?_
      refine xe_getc (j := 5) d83_82 ky83 fl56 fk9_1 rfl ?_
      refine xe_getc (j := 5) d83_85 ky83 fl50 fk8_8 rfl ?_
      refine xs_iload_n d83_88 rfl ?_
      refine xs_dup2 d83_89 rfl rfl ?_
      obtain ⟨hin18, hf⟩ := lk_g hf
      refine xe_iald d83_90 (by decide) ak40 hin18 ?_
      refine xs_iconst (v := 1) d83_91 (by decide) ?_
      refine xs_iload_n d83_92 rfl ?_
      refine xs_ishl d83_93 ?_
      refine xs_ior d83_94 ?_
      obtain ⟨hin19, hf⟩ := lk_g hf
      obtain ⟨h20, eh20, hf⟩ := lk_let hf
      refine xe_iast d83_95 (by decide) ak40 hin19  eh20 ?_
      obtain ⟨eR, eH⟩ := K0 _ (Option.some.inj hf).symm
      subst eR; subst eH
      exact xs_vret d83_96 rt83
noncomputable def f_TrugReader_readUnder_e (h : xH) : Option xH :=
  (f_TrugReader_readNumber (0 : Int32) ((h.1 8 3 5) - (1 : Int32)) h).bind fun q3 =>
  if (q3.2.1 7 7 0) = (2 : Int32) then (
  if (q3.2.1 7 8 0) = q3.1 then (
  (f_Tape_fail (1 : Int32) q3.2).bind fun h8 =>
  f_TrugReader_readUnder_b45 q3.1 h8) else (
  f_TrugReader_readUnder_b45 q3.1 q3.2)) else (
  f_TrugReader_readUnder_b45 q3.1 q3.2)
set_option maxHeartbeats 4000000 in
set_option maxRecDepth 100000 in
theorem f_TrugReader_readUnder_e_ok {g : xG} {l : Launch} {d : Nat} {h : xH} {o : xH} {R : Option xV} {H' : xH} (hD : 2 ≤ d) (hf : f_TrugReader_readUnder_e h = some o) (K0 : ∀ (h1 : xH), o = h1 → R = none ∧ H' = h1) : xEv g l d 83 0 [(0, xr 9 (some 0))] [] h R H' := by
  unfold f_TrugReader_readUnder_e at hf
  refine xs_aload_n d83_0 rfl ?_
  refine xs_iconst (v := 0) d83_1 (by decide) ?_
  refine xs_aload_n d83_2 rfl ?_
  refine xe_getc (j := 5) d83_3 ky83 fl56 fk9_1 rfl ?_
  refine xe_geti d83_6 ky83 fl31 fk8_3 ?_
  refine xs_iconst (v := 1) d83_9 (by decide) ?_
  refine xs_isub d83_10 ?_
  obtain ⟨q3, hc2, hf⟩ := lk_b hf
  refine xe_callv1 (as := [xi (0 : Int32), xi ((h.1 8 3 5) - (1 : Int32))]) (st := []) (h2 := q3.2) (d2 := d - 1) d83_11 ky83 ml22 st81 (by decide) cn81 rfl na81 (Nat.le_of_ble_eq_true rfl) (by omega) (f_TrugReader_readNumber_ok (by omega) hc2) ?_
  refine xe_istore_n (v := q3.1) (ls2 := [(0, xr 9 (some 0)), (1, xi q3.1)]) d83_14 mx83 (by decide) rfl rfl ?_
  refine xs_aload_n d83_15 rfl ?_
  refine xe_getc (j := 0) d83_16 ky83 fl55 fk9_0 rfl ?_
  refine xe_geti d83_19 ky83 fl8 fk7_7 ?_
  refine xs_iconst (v := 2) d83_22 (by decide) ?_
  rcases lk_if hf with ⟨hc4, hf⟩ | ⟨hc4, hf⟩
  · refine xs_icmp_ne (tgt := 45) d83_23 (by decide) (fun _ => ?_) (fun hn => absurd hc4 hn)
    refine xs_aload_n d83_26 rfl ?_
    refine xe_getc (j := 0) d83_27 ky83 fl55 fk9_0 rfl ?_
    refine xe_geti d83_30 ky83 fl11 fk7_8 ?_
    refine xs_iload_n d83_33 rfl ?_
    rcases lk_if hf with ⟨hc5, hf⟩ | ⟨hc5, hf⟩
    · refine xs_icmp_ne (tgt := 45) d83_34 (by decide) (fun _ => ?_) (fun hn => absurd hc5 hn)
      refine xs_aload_n d83_37 rfl ?_
      refine xe_getc (j := 0) d83_38 ky83 fl55 fk9_0 rfl ?_
      refine xs_iconst (v := 1) d83_41 (by decide) ?_
      obtain ⟨h8, hc7, hf⟩ := lk_b hf
      refine xe_callv0 (as := [xi (1 : Int32)]) (st := []) (h2 := h8) (d2 := d - 1) d83_42 ky83 ml19 st70 (by decide) cn70 rfl na70 (Nat.le_of_ble_eq_true rfl) (by omega) (f_Tape_fail_ok (by omega) hc7) ?_
      exact f_TrugReader_readUnder_b45_ok hD hf K0
    · refine xs_icmp_ne (tgt := 45) d83_34 (by decide) (fun hp => absurd hp hc5) (fun _ => ?_)
      exact f_TrugReader_readUnder_b45_ok hD hf K0
  · refine xs_icmp_ne (tgt := 45) d83_23 (by decide) (fun hp => absurd hp hc4) (fun _ => ?_)
    exact f_TrugReader_readUnder_b45_ok hD hf K0
noncomputable def f_TrugReader_readUnder (h : xH) : Option xH := f_TrugReader_readUnder_e h
theorem f_TrugReader_readUnder_ok {g : xG} {l : Launch} {d : Nat} {h : xH} {h1 : xH} (hD : 2 ≤ d) (hf : f_TrugReader_readUnder h = some h1) : xC g l d 83 [xr 9 (some 0)] h none h1 :=
  xC_of (by decide) (Nat.le_of_ble_eq_true rfl) (f_TrugReader_readUnder_e_ok hD hf (fun _ e => ⟨rfl, e⟩))
