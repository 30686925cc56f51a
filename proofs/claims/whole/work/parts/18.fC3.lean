theorem d31_0 : decode (xcode 31) 0 = .ok (.iconst 0, 1) := by decide +kernel
theorem d31_1 : decode (xcode 31) 1 = .ok (.istore_n 3, 1) := by decide +kernel
theorem d31_2 : decode (xcode 31) 2 = .ok (.iload_n 3, 1) := by decide +kernel
theorem d31_3 : decode (xcode 31) 3 = .ok (.sipush 256, 3) := by decide +kernel
theorem d31_6 : decode (xcode 31) 6 = .ok (.if_icmp .ge 150, 3) := by decide +kernel
theorem d31_9 : decode (xcode 31) 9 = .ok (.aload_n 0, 1) := by decide +kernel
theorem d31_10 : decode (xcode 31) 10 = .ok (.getfield 24, 3) := by decide +kernel
theorem d31_13 : decode (xcode 31) 13 = .ok (.iload_n 3, 1) := by decide +kernel
theorem d31_14 : decode (xcode 31) 14 = .ok (.iload_n 3, 1) := by decide +kernel
theorem d31_15 : decode (xcode 31) 15 = .ok (.ifCond .ne 7, 3) := by decide +kernel
theorem d31_18 : decode (xcode 31) 18 = .ok (.iconst 1, 1) := by decide +kernel
theorem d31_19 : decode (xcode 31) 19 = .ok (.goto 4, 3) := by decide +kernel
theorem d31_22 : decode (xcode 31) 22 = .ok (.iconst 0, 1) := by decide +kernel
theorem d31_23 : decode (xcode 31) 23 = .ok (.bastore, 1) := by decide +kernel
theorem d31_24 : decode (xcode 31) 24 = .ok (.iload_n 3, 1) := by decide +kernel
theorem d31_25 : decode (xcode 31) 25 = .ok (.aload_n 2, 1) := by decide +kernel
theorem d31_26 : decode (xcode 31) 26 = .ok (.getfield 68, 3) := by decide +kernel
theorem d31_29 : decode (xcode 31) 29 = .ok (.iconst (-1), 1) := by decide +kernel
theorem d31_30 : decode (xcode 31) 30 = .ok (.ixor, 1) := by decide +kernel
theorem d31_31 : decode (xcode 31) 31 = .ok (.iand, 1) := by decide +kernel
theorem d31_32 : decode (xcode 31) 32 = .ok (.ifCond .ne 25, 3) := by decide +kernel
theorem d31_35 : decode (xcode 31) 35 = .ok (.aload_n 2, 1) := by decide +kernel
theorem d31_36 : decode (xcode 31) 36 = .ok (.getfield 72, 3) := by decide +kernel
theorem d31_39 : decode (xcode 31) 39 = .ok (.aload_n 0, 1) := by decide +kernel
theorem d31_40 : decode (xcode 31) 40 = .ok (.getfield 18, 3) := by decide +kernel
theorem d31_43 : decode (xcode 31) 43 = .ok (.iload_n 3, 1) := by decide +kernel
theorem d31_44 : decode (xcode 31) 44 = .ok (.iaload, 1) := by decide +kernel
theorem d31_45 : decode (xcode 31) 45 = .ok (.iadd, 1) := by decide +kernel
theorem d31_46 : decode (xcode 31) 46 = .ok (.aload_n 1, 1) := by decide +kernel
theorem d31_47 : decode (xcode 31) 47 = .ok (.getfield 75, 3) := by decide +kernel
theorem d31_50 : decode (xcode 31) 50 = .ok (.if_icmp .gt 7, 3) := by decide +kernel
theorem d31_53 : decode (xcode 31) 53 = .ok (.iconst 1, 1) := by decide +kernel
theorem d31_54 : decode (xcode 31) 54 = .ok (.goto 4, 3) := by decide +kernel
theorem d31_57 : decode (xcode 31) 57 = .ok (.iconst 0, 1) := by decide +kernel
theorem d31_58 : decode (xcode 31) 58 = .ok (.istore 4, 2) := by decide +kernel
theorem d31_60 : decode (xcode 31) 60 = .ok (.iconst 0, 1) := by decide +kernel
theorem d31_61 : decode (xcode 31) 61 = .ok (.istore 5, 2) := by decide +kernel
theorem d31_63 : decode (xcode 31) 63 = .ok (.iload 5, 2) := by decide +kernel
theorem d31_65 : decode (xcode 31) 65 = .ok (.bipush 8, 2) := by decide +kernel
theorem d31_67 : decode (xcode 31) 67 = .ok (.if_icmp .ge 83, 3) := by decide +kernel
theorem d31_70 : decode (xcode 31) 70 = .ok (.iload 4, 2) := by decide +kernel
theorem d31_72 : decode (xcode 31) 72 = .ok (.ifCond .eq 78, 3) := by decide +kernel
theorem d31_75 : decode (xcode 31) 75 = .ok (.aload_n 0, 1) := by decide +kernel
theorem d31_76 : decode (xcode 31) 76 = .ok (.getfield 24, 3) := by decide +kernel
theorem d31_79 : decode (xcode 31) 79 = .ok (.iload_n 3, 1) := by decide +kernel
theorem d31_80 : decode (xcode 31) 80 = .ok (.baload, 1) := by decide +kernel
theorem d31_81 : decode (xcode 31) 81 = .ok (.ifCond .ne 69, 3) := by decide +kernel
theorem d31_84 : decode (xcode 31) 84 = .ok (.iload_n 3, 1) := by decide +kernel
theorem d31_85 : decode (xcode 31) 85 = .ok (.iconst 1, 1) := by decide +kernel
theorem d31_86 : decode (xcode 31) 86 = .ok (.iload 5, 2) := by decide +kernel
theorem d31_88 : decode (xcode 31) 88 = .ok (.ishl, 1) := by decide +kernel
theorem d31_89 : decode (xcode 31) 89 = .ok (.iconst (-1), 1) := by decide +kernel
theorem d31_90 : decode (xcode 31) 90 = .ok (.ixor, 1) := by decide +kernel
theorem d31_91 : decode (xcode 31) 91 = .ok (.iand, 1) := by decide +kernel
theorem d31_92 : decode (xcode 31) 92 = .ok (.istore 6, 2) := by decide +kernel
theorem d31_94 : decode (xcode 31) 94 = .ok (.aload_n 0, 1) := by decide +kernel
theorem d31_95 : decode (xcode 31) 95 = .ok (.getfield 24, 3) := by decide +kernel
theorem d31_98 : decode (xcode 31) 98 = .ok (.iload_n 3, 1) := by decide +kernel
theorem d31_99 : decode (xcode 31) 99 = .ok (.iload_n 3, 1) := by decide +kernel
theorem d31_100 : decode (xcode 31) 100 = .ok (.iload 5, 2) := by decide +kernel
theorem d31_102 : decode (xcode 31) 102 = .ok (.invokestatic 78, 3) := by decide +kernel
theorem d31_105 : decode (xcode 31) 105 = .ok (.ifCond .eq 37, 3) := by decide +kernel
theorem d31_108 : decode (xcode 31) 108 = .ok (.aload_n 0, 1) := by decide +kernel
theorem d31_109 : decode (xcode 31) 109 = .ok (.getfield 24, 3) := by decide +kernel
theorem d31_112 : decode (xcode 31) 112 = .ok (.iload 6, 2) := by decide +kernel
theorem d31_114 : decode (xcode 31) 114 = .ok (.baload, 1) := by decide +kernel
theorem d31_115 : decode (xcode 31) 115 = .ok (.ifCond .eq 27, 3) := by decide +kernel
theorem d31_118 : decode (xcode 31) 118 = .ok (.aload_n 2, 1) := by decide +kernel
theorem d31_119 : decode (xcode 31) 119 = .ok (.getfield 82, 3) := by decide +kernel
theorem d31_122 : decode (xcode 31) 122 = .ok (.iload 5, 2) := by decide +kernel
theorem d31_124 : decode (xcode 31) 124 = .ok (.iaload, 1) := by decide +kernel
theorem d31_125 : decode (xcode 31) 125 = .ok (.aload_n 2, 1) := by decide +kernel
theorem d31_126 : decode (xcode 31) 126 = .ok (.getfield 68, 3) := by decide +kernel
theorem d31_129 : decode (xcode 31) 129 = .ok (.iand, 1) := by decide +kernel
theorem d31_130 : decode (xcode 31) 130 = .ok (.iload 6, 2) := by decide +kernel
theorem d31_132 : decode (xcode 31) 132 = .ok (.iconst (-1), 1) := by decide +kernel
theorem d31_133 : decode (xcode 31) 133 = .ok (.ixor, 1) := by decide +kernel
theorem d31_134 : decode (xcode 31) 134 = .ok (.iand, 1) := by decide +kernel
theorem d31_135 : decode (xcode 31) 135 = .ok (.ifCond .ne 7, 3) := by decide +kernel
theorem d31_138 : decode (xcode 31) 138 = .ok (.iconst 1, 1) := by decide +kernel
theorem d31_139 : decode (xcode 31) 139 = .ok (.goto 4, 3) := by decide +kernel
theorem d31_142 : decode (xcode 31) 142 = .ok (.iconst 0, 1) := by decide +kernel
theorem d31_143 : decode (xcode 31) 143 = .ok (.bastore, 1) := by decide +kernel
theorem d31_144 : decode (xcode 31) 144 = .ok (.iinc 5 1, 3) := by decide +kernel
theorem d31_147 : decode (xcode 31) 147 = .ok (.goto (-84), 3) := by decide +kernel
theorem d31_150 : decode (xcode 31) 150 = .ok (.iinc 3 1, 3) := by decide +kernel
theorem d31_153 : decode (xcode 31) 153 = .ok (.goto (-151), 3) := by decide +kernel
theorem d31_156 : decode (xcode 31) 156 = .ok (.return_, 1) := by decide +kernel
noncomputable def f_Sets_findOpenSets_b150 (i1 : Nat) (i2 : Nat) (v3 : Int32) (h : xH) : Option ((Int32 × xH) ⊕ xH) :=
  xlet (v3 + (1 : Int32)) fun v3_10 =>
  some (Sum.inl (v3_10, h))
set_option maxHeartbeats 4000000 in
set_option maxRecDepth 100000 in
theorem f_Sets_findOpenSets_b150_ok {g : xG} {l : Launch} {d : Nat} {i1 : Nat} {i2 : Nat} {v3 : Int32} {h : xH} {o : ((Int32 × xH) ⊕ xH)} {R : Option xV} {H' : xH} (hD : 1 ≤ d) (hf : f_Sets_findOpenSets_b150 i1 i2 v3 h = some o) (K1 : ∀ (w3 : Int32) (h1 : xH), o = Sum.inl (w3, h1) → xEv g l d 31 2 [(0, xr 5 (some 0)), (1, xr 8 (some i1)), (2, xr 6 (some i2)), (3, xi w3)] [] h1 R H') (K0 : ∀ (h1 : xH), o = Sum.inr (h1) → R = none ∧ H' = h1) : xEv g l d 31 150 [(0, xr 5 (some 0)), (1, xr 8 (some i1)), (2, xr 6 (some i2)), (3, xi v3)] [] h R H' := by
  unfold f_Sets_findOpenSets_b150 at hf
  obtain ⟨v3_10, ev3_10, hf⟩ := lk_let hf
  refine xe_iinc (v := v3_10) (b := 1) (ls2 := [(0, xr 5 (some 0)), (1, xr 8 (some i1)), (2, xr 6 (some i2)), (3, xi v3_10)]) d31_150 mx31 (by decide) rfl (by decide) ev3_10 rfl ?_
  refine xs_goto (tgt := 2) d31_153 (by decide) ?_
  exact K1 _ _ (Option.some.inj hf).symm
noncomputable def f_Sets_findOpenSets_b143 (i1 : Nat) (i2 : Nat) (v3 : Int32) (v4 : Int32) (v5 : Int32) (t0 : Int32) (t1 : Int32) (h : xH) : Option ((Int32 × xH) ⊕ ((Int32 × xH) ⊕ xH)) :=
  if xib t1 256 then (
  if t0 = 0 ∨ t0 = 1 then (
  xlet (xsA h 26 0 (upd (h.2.2.2.1 26 0) (t1).toNatClampNeg t0)) fun h19 =>
  xlet (v5 + (1 : Int32)) fun v5_21 =>
  some (Sum.inl (v5_21, h19))) else none) else none
set_option maxHeartbeats 4000000 in
set_option maxRecDepth 100000 in
theorem f_Sets_findOpenSets_b143_ok {g : xG} {l : Launch} {d : Nat} {i1 : Nat} {i2 : Nat} {v3 : Int32} {v4 : Int32} {v5 : Int32} {t0 : Int32} {t1 : Int32} {h : xH} {o : ((Int32 × xH) ⊕ ((Int32 × xH) ⊕ xH))} {R : Option xV} {H' : xH} (hD : 1 ≤ d) (hf : f_Sets_findOpenSets_b143 i1 i2 v3 v4 v5 t0 t1 h = some o) (K1 : ∀ (w3 : Int32) (h1 : xH), o = Sum.inr (Sum.inl (w3, h1)) → xEv g l d 31 2 [(0, xr 5 (some 0)), (1, xr 8 (some i1)), (2, xr 6 (some i2)), (3, xi w3)] [] h1 R H') (K2 : ∀ (w5 : Int32) (h1 : xH), o = Sum.inl (w5, h1) → xEv g l d 31 63 [(0, xr 5 (some 0)), (1, xr 8 (some i1)), (2, xr 6 (some i2)), (3, xi v3), (4, xi v4), (5, xi w5)] [] h1 R H') (K0 : ∀ (h1 : xH), o = Sum.inr (Sum.inr (h1)) → R = none ∧ H' = h1) : xEv g l d 31 143 [(0, xr 5 (some 0)), (1, xr 8 (some i1)), (2, xr 6 (some i2)), (3, xi v3), (4, xi v4), (5, xi v5)] [xi t0, xi t1, xr 26 (some 0)] h R H' := by
  unfold f_Sets_findOpenSets_b143 at hf
  obtain ⟨hin18, hf⟩ := lk_g hf
  obtain ⟨hz20, hf⟩ := lk_g hf
  obtain ⟨h19, eh19, hf⟩ := lk_let hf
  refine xe_zast d31_143 (by decide) ak26 hin18 hz20 eh19 ?_
  obtain ⟨v5_21, ev5_21, hf⟩ := lk_let hf
  refine xe_iinc (v := v5_21) (b := 1) (ls2 := [(0, xr 5 (some 0)), (1, xr 8 (some i1)), (2, xr 6 (some i2)), (3, xi v3), (4, xi v4), (5, xi v5_21)]) d31_144 mx31 (by decide) rfl (by decide) ev5_21 rfl ?_
  refine xs_goto (tgt := 63) d31_147 (by decide) ?_
  exact K2 _ _ (Option.some.inj hf).symm
noncomputable def f_Sets_findOpenSets_b142 (i1 : Nat) (i2 : Nat) (v3 : Int32) (v4 : Int32) (v5 : Int32) (t0 : Int32) (h : xH) : Option ((Int32 × xH) ⊕ ((Int32 × xH) ⊕ xH)) :=
  f_Sets_findOpenSets_b143 i1 i2 v3 v4 v5 (0 : Int32) t0 h
set_option maxHeartbeats 4000000 in
set_option maxRecDepth 100000 in
theorem f_Sets_findOpenSets_b142_ok {g : xG} {l : Launch} {d : Nat} {i1 : Nat} {i2 : Nat} {v3 : Int32} {v4 : Int32} {v5 : Int32} {t0 : Int32} {h : xH} {o : ((Int32 × xH) ⊕ ((Int32 × xH) ⊕ xH))} {R : Option xV} {H' : xH} (hD : 1 ≤ d) (hf : f_Sets_findOpenSets_b142 i1 i2 v3 v4 v5 t0 h = some o) (K1 : ∀ (w3 : Int32) (h1 : xH), o = Sum.inr (Sum.inl (w3, h1)) → xEv g l d 31 2 [(0, xr 5 (some 0)), (1, xr 8 (some i1)), (2, xr 6 (some i2)), (3, xi w3)] [] h1 R H') (K2 : ∀ (w5 : Int32) (h1 : xH), o = Sum.inl (w5, h1) → xEv g l d 31 63 [(0, xr 5 (some 0)), (1, xr 8 (some i1)), (2, xr 6 (some i2)), (3, xi v3), (4, xi v4), (5, xi w5)] [] h1 R H') (K0 : ∀ (h1 : xH), o = Sum.inr (Sum.inr (h1)) → R = none ∧ H' = h1) : xEv g l d 31 142 [(0, xr 5 (some 0)), (1, xr 8 (some i1)), (2, xr 6 (some i2)), (3, xi v3), (4, xi v4), (5, xi v5)] [xi t0, xr 26 (some 0)] h R H' := by
  unfold f_Sets_findOpenSets_b142 at hf
  refine xs_iconst (v := 0) d31_142 (by decide) ?_
  exact f_Sets_findOpenSets_b143_ok hD hf K1 K2 K0
noncomputable def f_Sets_findOpenSets_s63 (i1 : Nat) (i2 : Nat) (v3 : Int32) (v4 : Int32) (v5 : Int32) (h : xH) : Option ((Int32 × xH) ⊕ ((Int32 × xH) ⊕ xH)) :=
  if (8 : Int32) ≤ v5 then (
  xup (f_Sets_findOpenSets_b150 i1 i2 v3 h)) else (
  if v4 = (0 : Int32) then (
  xup (f_Sets_findOpenSets_b150 i1 i2 v3 h)) else (
  if xib v3 256 then (
  if (h.2.2.2.1 26 0 (v3).toNatClampNeg) = (0 : Int32) then (
  xlet (v3 &&& (((1 : Int32) <<< (v5 &&& 31)) ^^^ (-1 : Int32))) fun v6_14 =>
  (f_Sets_has v3 v5 h).bind fun r15 =>
  if r15 = (0 : Int32) then (
  f_Sets_findOpenSets_b142 i1 i2 v3 v4 v5 v3 h) else (
  if xib v6_14 256 then (
  if (h.2.2.2.1 26 0 (v6_14).toNatClampNeg) = (0 : Int32) then (
  f_Sets_findOpenSets_b142 i1 i2 v3 v4 v5 v3 h) else (
  if xib v5 8 then (
  if (((h.2.2.2.1 30 i2 (v5).toNatClampNeg) &&& (h.1 6 2 i2)) &&& (v6_14 ^^^ (-1 : Int32))) = (0 : Int32) then (
  f_Sets_findOpenSets_b143 i1 i2 v3 v4 v5 (1 : Int32) v3 h) else (
  f_Sets_findOpenSets_b142 i1 i2 v3 v4 v5 v3 h)) else none)) else none)) else (
  xup (f_Sets_findOpenSets_b150 i1 i2 v3 h))) else none))
set_option maxHeartbeats 4000000 in
set_option maxRecDepth 100000 in
theorem f_Sets_findOpenSets_s63_ok {g : xG} {l : Launch} {d : Nat} {i1 : Nat} {i2 : Nat} {v3 : Int32} {v4 : Int32} {v5 : Int32} {h : xH} {o : ((Int32 × xH) ⊕ ((Int32 × xH) ⊕ xH))} {R : Option xV} {H' : xH} (hD : 1 ≤ d) (hf : f_Sets_findOpenSets_s63 i1 i2 v3 v4 v5 h = some o) (K1 : ∀ (w3 : Int32) (h1 : xH), o = Sum.inr (Sum.inl (w3, h1)) → xEv g l d 31 2 [(0, xr 5 (some 0)), (1, xr 8 (some i1)), (2, xr 6 (some i2)), (3, xi w3)] [] h1 R H') (K2 : ∀ (w5 : Int32) (h1 : xH), o = Sum.inl (w5, h1) → xEv g l d 31 63 [(0, xr 5 (some 0)), (1, xr 8 (some i1)), (2, xr 6 (some i2)), (3, xi v3), (4, xi v4), (5, xi w5)] [] h1 R H') (K0 : ∀ (h1 : xH), o = Sum.inr (Sum.inr (h1)) → R = none ∧ H' = h1) : xEv g l d 31 63 [(0, xr 5 (some 0)), (1, xr 8 (some i1)), (2, xr 6 (some i2)), (3, xi v3), (4, xi v4), (5, xi v5)] [] h R H' := by
  unfold f_Sets_findOpenSets_s63 at hf
  refine xs_iload d31_63 rfl ?_
  refine xs_bipush (v := 8) d31_65 (by decide) ?_
  rcases lk_if hf with ⟨hc9, hf⟩ | ⟨hc9, hf⟩
  · refine xs_icmp_ge (tgt := 150) d31_67 (by decide) (fun _ => ?_) (fun hn => absurd hc9 hn)
    refine xs_pick [0, 1, 2, 3] rfl ?_
    obtain ⟨x0, hf, ex0⟩ := lk_up hf
    exact f_Sets_findOpenSets_b150_ok hD hf (fun u0 u1 e => K1 u0 u1 (ex0.trans (congrArg Sum.inr e))) (fun u0 e => K0 u0 (ex0.trans (congrArg Sum.inr e)))
  · refine xs_icmp_ge (tgt := 150) d31_67 (by decide) (fun hp => absurd hp hc9) (fun _ => ?_)
    refine xs_iload d31_70 rfl ?_
    rcases lk_if hf with ⟨hc11, hf⟩ | ⟨hc11, hf⟩
    · refine xs_if_eq (tgt := 150) d31_72 (by decide) (fun _ => ?_) (fun hn => absurd hc11 hn)
      refine xs_pick [0, 1, 2, 3] rfl ?_
      obtain ⟨x0, hf, ex0⟩ := lk_up hf
      exact f_Sets_findOpenSets_b150_ok hD hf (fun u0 u1 e => K1 u0 u1 (ex0.trans (congrArg Sum.inr e))) (fun u0 e => K0 u0 (ex0.trans (congrArg Sum.inr e)))
    · refine xs_if_eq (tgt := 150) d31_72 (by decide) (fun hp => absurd hp hc11) (fun _ => ?_)
      refine xs_aload_n d31_75 rfl ?_
      refine xe_getc (j := 0) d31_76 ky31 fl137 fk5_11 rfl ?_
      refine xs_iload_n d31_79 rfl ?_
      obtain ⟨hin12, hf⟩ := lk_g hf
      refine xe_zald d31_80 (by decide) ak26 hin12 ?_
      rcases lk_if hf with ⟨hc13, hf⟩ | ⟨hc13, hf⟩
      · refine xs_if_ne (tgt := 150) d31_81 (by decide) (fun _ => ?_) (fun hn => absurd hc13 hn)
        refine xs_iload_n d31_84 rfl ?_
        refine xs_iconst (v := 1) d31_85 (by decide) ?_
        refine xs_iload d31_86 rfl ?_
        refine xs_ishl d31_88 ?_
        refine xs_iconst (v := -1) d31_89 (by decide) ?_
        refine xs_ixor d31_90 ?_
        refine xs_iand d31_91 ?_
        obtain ⟨v6_14, ev6_14, hf⟩ := lk_let hf
        refine xe_istore (v := v6_14) (ls2 := [(0, xr 5 (some 0)), (1, xr 8 (some i1)), (2, xr 6 (some i2)), (3, xi v3), (4, xi v4), (5, xi v5), (6, xi v6_14)]) d31_92 mx31 (by decide) ev6_14 rfl ?_
        refine xs_aload_n d31_94 rfl ?_
        refine xe_getc (j := 0) d31_95 ky31 fl137 fk5_11 rfl ?_
        refine xs_iload_n d31_98 rfl ?_
        refine xs_iload_n d31_99 rfl ?_
        refine xs_iload d31_100 rfl ?_
        obtain ⟨r15, hc16, hf⟩ := lk_b hf
        refine xe_calls1 (as := [xi v3, xi v5]) (st := [xi v3, xr 26 (some 0)]) (h2 := h) (d2 := d - 1) d31_102 ky31 ml118 st28 rfl na28 (Nat.le_of_ble_eq_true rfl) (by omega) (f_Sets_has_ok (by omega) hc16) ?_
        rcases lk_if hf with ⟨hc17, hf⟩ | ⟨hc17, hf⟩
        · refine xs_if_eq (tgt := 142) d31_105 (by decide) (fun _ => ?_) (fun hn => absurd hc17 hn)
          refine xs_pick [0, 1, 2, 3, 4, 5] rfl ?_
          exact f_Sets_findOpenSets_b142_ok hD hf K1 K2 K0
        · refine xs_if_eq (tgt := 142) d31_105 (by decide) (fun hp => absurd hp hc17) (fun _ => ?_)
          refine xs_aload_n d31_108 rfl ?_
          refine xe_getc (j := 0) d31_109 ky31 fl137 fk5_11 rfl ?_
          refine xs_iload d31_112 rfl ?_
          obtain ⟨hin22, hf⟩ := lk_g hf
          refine xe_zald d31_114 (by decide) ak26 hin22 ?_
          rcases lk_if hf with ⟨hc23, hf⟩ | ⟨hc23, hf⟩
          · refine xs_if_eq (tgt := 142) d31_115 (by decide) (fun _ => ?_) (fun hn => absurd hc23 hn)
            refine xs_pick [0, 1, 2, 3, 4, 5] rfl ?_
            exact f_Sets_findOpenSets_b142_ok hD hf K1 K2 K0
          · refine xs_if_eq (tgt := 142) d31_115 (by decide) (fun hp => absurd hp hc23) (fun _ => ?_)
            refine xs_aload_n d31_118 rfl ?_
            refine xe_getc (j := i2) d31_119 ky31 fl85 fk6_5 (by omega) ?_
            refine xs_iload d31_122 rfl ?_
            obtain ⟨hin24, hf⟩ := lk_g hf
            refine xe_iald d31_124 (by decide) ak30 hin24 ?_
            refine xs_aload_n d31_125 rfl ?_
            refine xe_geti d31_126 ky31 fl76 fk6_2 ?_
            refine xs_iand d31_129 ?_
            refine xs_iload d31_130 rfl ?_
            refine xs_iconst (v := -1) d31_132 (by decide) ?_
            refine xs_ixor d31_133 ?_
            refine xs_iand d31_134 ?_
            rcases lk_if hf with ⟨hc25, hf⟩ | ⟨hc25, hf⟩
            · refine xs_if_ne (tgt := 142) d31_135 (by decide) (fun _ => ?_) (fun hn => absurd hc25 hn)
              refine xs_iconst (v := 1) d31_138 (by decide) ?_
              refine xs_goto (tgt := 143) d31_139 (by decide) ?_
              refine xs_pick [0, 1, 2, 3, 4, 5] rfl ?_
              exact f_Sets_findOpenSets_b143_ok hD hf K1 K2 K0
            · refine xs_if_ne (tgt := 142) d31_135 (by decide) (fun hp => absurd hp hc25) (fun _ => ?_)
              refine xs_pick [0, 1, 2, 3, 4, 5] rfl ?_
              exact f_Sets_findOpenSets_b142_ok hD hf K1 K2 K0
      · refine xs_if_ne (tgt := 150) d31_81 (by decide) (fun hp => absurd hp hc13) (fun _ => ?_)
        refine xs_pick [0, 1, 2, 3] rfl ?_
        obtain ⟨x0, hf, ex0⟩ := lk_up hf
        exact f_Sets_findOpenSets_b150_ok hD hf (fun u0 u1 e => K1 u0 u1 (ex0.trans (congrArg Sum.inr e))) (fun u0 e => K0 u0 (ex0.trans (congrArg Sum.inr e)))
noncomputable def f_Sets_findOpenSets_l63 (i1 : Nat) (i2 : Nat) (v3 : Int32) (v4 : Int32) (v5 : Int32) (h : xH) : Option ((Int32 × xH) ⊕ xH) :=
  whl (fun s => f_Sets_findOpenSets_s63 i1 i2 v3 v4 s.1 s.2) (v5, h)
theorem f_Sets_findOpenSets_l63_ok {g : xG} {l : Launch} {d : Nat} {i1 : Nat} {i2 : Nat} {v3 : Int32} {v4 : Int32} {v5 : Int32} {h : xH} {o : ((Int32 × xH) ⊕ xH)} {R : Option xV} {H' : xH} (hD : 1 ≤ d) (hf : f_Sets_findOpenSets_l63 i1 i2 v3 v4 v5 h = some o) (K1 : ∀ (w3 : Int32) (h1 : xH), o = Sum.inl (w3, h1) → xEv g l d 31 2 [(0, xr 5 (some 0)), (1, xr 8 (some i1)), (2, xr 6 (some i2)), (3, xi w3)] [] h1 R H') (K0 : ∀ (h1 : xH), o = Sum.inr (h1) → R = none ∧ H' = h1) : xEv g l d 31 63 [(0, xr 5 (some 0)), (1, xr 8 (some i1)), (2, xr 6 (some i2)), (3, xi v3), (4, xi v4), (5, xi v5)] [] h R H' := by
  obtain ⟨n, hn⟩ := whl_iff.mp hf
  clear hf
  induction n generalizing v5 h with
  | zero => cases hn
  | succ n ih =>
    obtain ⟨o2, hs, hn⟩ := lk_b (show (f_Sets_findOpenSets_s63 i1 i2 v3 v4 v5 h).bind (fun o => Sum.elim (itn _ n) some o) = some o from hn)
    exact f_Sets_findOpenSets_s63_ok hD hs (fun u0 u1 e => K1 u0 u1 (by rw [e] at hn; exact (Option.some.inj hn).symm)) (fun u0 u1 e => ih (by rw [e] at hn; exact hn)) (fun u0 e => K0 u0 (by rw [e] at hn; exact (Option.some.inj hn).symm))
noncomputable def f_Sets_findOpenSets_b58 (i1 : Nat) (i2 : Nat) (v3 : Int32) (t0 : Int32) (h : xH) : Option ((Int32 × xH) ⊕ xH) :=
  f_Sets_findOpenSets_l63 i1 i2 v3 t0 (0 : Int32) h
set_option maxHeartbeats 4000000 in
set_option maxRecDepth 100000 in
theorem f_Sets_findOpenSets_b58_ok {g : xG} {l : Launch} {d : Nat} {i1 : Nat} {i2 : Nat} {v3 : Int32} {t0 : Int32} {h : xH} {o : ((Int32 × xH) ⊕ xH)} {R : Option xV} {H' : xH} (hD : 1 ≤ d) (hf : f_Sets_findOpenSets_b58 i1 i2 v3 t0 h = some o) (K1 : ∀ (w3 : Int32) (h1 : xH), o = Sum.inl (w3, h1) → xEv g l d 31 2 [(0, xr 5 (some 0)), (1, xr 8 (some i1)), (2, xr 6 (some i2)), (3, xi w3)] [] h1 R H') (K0 : ∀ (h1 : xH), o = Sum.inr (h1) → R = none ∧ H' = h1) : xEv g l d 31 58 [(0, xr 5 (some 0)), (1, xr 8 (some i1)), (2, xr 6 (some i2)), (3, xi v3)] [xi t0] h R H' := by
  unfold f_Sets_findOpenSets_b58 at hf
  refine xe_istore (v := t0) (ls2 := [(0, xr 5 (some 0)), (1, xr 8 (some i1)), (2, xr 6 (some i2)), (3, xi v3), (4, xi t0)]) d31_58 mx31 (by decide) rfl rfl ?_
  refine xs_iconst (v := 0) d31_60 (by decide) ?_
  refine xe_istore (v := (0 : Int32)) (ls2 := [(0, xr 5 (some 0)), (1, xr 8 (some i1)), (2, xr 6 (some i2)), (3, xi v3), (4, xi t0), (5, xi (0 : Int32))]) d31_61 mx31 (by decide) rfl rfl ?_
  exact f_Sets_findOpenSets_l63_ok hD hf K1 K0
noncomputable def f_Sets_findOpenSets_b57 (i1 : Nat) (i2 : Nat) (v3 : Int32) (h : xH) : Option ((Int32 × xH) ⊕ xH) :=
  f_Sets_findOpenSets_b58 i1 i2 v3 (0 : Int32) h
set_option maxHeartbeats 4000000 in
set_option maxRecDepth 100000 in
theorem f_Sets_findOpenSets_b57_ok {g : xG} {l : Launch} {d : Nat} {i1 : Nat} {i2 : Nat} {v3 : Int32} {h : xH} {o : ((Int32 × xH) ⊕ xH)} {R : Option xV} {H' : xH} (hD : 1 ≤ d) (hf : f_Sets_findOpenSets_b57 i1 i2 v3 h = some o) (K1 : ∀ (w3 : Int32) (h1 : xH), o = Sum.inl (w3, h1) → xEv g l d 31 2 [(0, xr 5 (some 0)), (1, xr 8 (some i1)), (2, xr 6 (some i2)), (3, xi w3)] [] h1 R H') (K0 : ∀ (h1 : xH), o = Sum.inr (h1) → R = none ∧ H' = h1) : xEv g l d 31 57 [(0, xr 5 (some 0)), (1, xr 8 (some i1)), (2, xr 6 (some i2)), (3, xi v3)] [] h R H' := by
  unfold f_Sets_findOpenSets_b57 at hf
  refine xs_iconst (v := 0) d31_57 (by decide) ?_
  exact f_Sets_findOpenSets_b58_ok hD hf K1 K0
noncomputable def f_Sets_findOpenSets_b23 (i1 : Nat) (i2 : Nat) (v3 : Int32) (t0 : Int32) (t1 : Int32) (h : xH) : Option ((Int32 × xH) ⊕ xH) :=
  if xib t1 256 then (
  if t0 = 0 ∨ t0 = 1 then (
  xlet (xsA h 26 0 (upd (h.2.2.2.1 26 0) (t1).toNatClampNeg t0)) fun h4 =>
  if (v3 &&& ((h4.1 6 2 i2) ^^^ (-1 : Int32))) = (0 : Int32) then (
  if xib v3 256 then (
  if (h4.1 8 1 i1) < ((h4.1 6 0 i2) + (h4.2.2.2.1 24 0 (v3).toNatClampNeg)) then (
  f_Sets_findOpenSets_b57 i1 i2 v3 h4) else (
  f_Sets_findOpenSets_b58 i1 i2 v3 (1 : Int32) h4)) else none) else (
  f_Sets_findOpenSets_b57 i1 i2 v3 h4)) else none) else none
set_option maxHeartbeats 4000000 in
set_option maxRecDepth 100000 in
theorem f_Sets_findOpenSets_b23_ok {g : xG} {l : Launch} {d : Nat} {i1 : Nat} {i2 : Nat} {v3 : Int32} {t0 : Int32} {t1 : Int32} {h : xH} {o : ((Int32 × xH) ⊕ xH)} {R : Option xV} {H' : xH} (hD : 1 ≤ d) (hf : f_Sets_findOpenSets_b23 i1 i2 v3 t0 t1 h = some o) (K1 : ∀ (w3 : Int32) (h1 : xH), o = Sum.inl (w3, h1) → xEv g l d 31 2 [(0, xr 5 (some 0)), (1, xr 8 (some i1)), (2, xr 6 (some i2)), (3, xi w3)] [] h1 R H') (K0 : ∀ (h1 : xH), o = Sum.inr (h1) → R = none ∧ H' = h1) : xEv g l d 31 23 [(0, xr 5 (some 0)), (1, xr 8 (some i1)), (2, xr 6 (some i2)), (3, xi v3)] [xi t0, xi t1, xr 26 (some 0)] h R H' := by
  unfold f_Sets_findOpenSets_b23 at hf
  obtain ⟨hin3, hf⟩ := lk_g hf
  obtain ⟨hz5, hf⟩ := lk_g hf
  obtain ⟨h4, eh4, hf⟩ := lk_let hf
  refine xe_zast d31_23 (by decide) ak26 hin3 hz5 eh4 ?_
  refine xs_iload_n d31_24 rfl ?_
  refine xs_aload_n d31_25 rfl ?_
  refine xe_geti d31_26 ky31 fl76 fk6_2 ?_
  refine xs_iconst (v := -1) d31_29 (by decide) ?_
  refine xs_ixor d31_30 ?_
  refine xs_iand d31_31 ?_
  rcases lk_if hf with ⟨hc6, hf⟩ | ⟨hc6, hf⟩
  · refine xs_if_ne (tgt := 57) d31_32 (by decide) (fun _ => ?_) (fun hn => absurd hc6 hn)
    refine xs_aload_n d31_35 rfl ?_
    refine xe_geti d31_36 ky31 fl68 fk6_0 ?_
    refine xs_aload_n d31_39 rfl ?_
    refine xe_getc (j := 0) d31_40 ky31 fl135 fk5_9 rfl ?_
    refine xs_iload_n d31_43 rfl ?_
    obtain ⟨hin7, hf⟩ := lk_g hf
    refine xe_iald d31_44 (by decide) ak24 hin7 ?_
    refine xs_iadd d31_45 ?_
    refine xs_aload_n d31_46 rfl ?_
    refine xe_geti d31_47 ky31 fl23 fk8_1 ?_
    rcases lk_if hf with ⟨hc8, hf⟩ | ⟨hc8, hf⟩
    · refine xs_icmp_gt (tgt := 57) d31_50 (by decide) (fun _ => ?_) (fun hn => absurd hc8 hn)
      exact f_Sets_findOpenSets_b57_ok hD hf K1 K0
    · refine xs_icmp_gt (tgt := 57) d31_50 (by decide) (fun hp => absurd hp hc8) (fun _ => ?_)
      refine xs_iconst (v := 1) d31_53 (by decide) ?_
      refine xs_goto (tgt := 58) d31_54 (by decide) ?_
      exact f_Sets_findOpenSets_b58_ok hD hf K1 K0
  · refine xs_if_ne (tgt := 57) d31_32 (by decide) (fun hp => absurd hp hc6) (fun _ => ?_)
    exact f_Sets_findOpenSets_b57_ok hD hf K1 K0
noncomputable def f_Sets_findOpenSets_s2 (i1 : Nat) (i2 : Nat) (v3 : Int32) (h : xH) : Option ((Int32 × xH) ⊕ xH) :=
  if (256 : Int32) ≤ v3 then (
  some (Sum.inr (h))) else (
  if v3 = (0 : Int32) then (
  f_Sets_findOpenSets_b23 i1 i2 v3 (1 : Int32) v3 h) else (
  f_Sets_findOpenSets_b23 i1 i2 v3 (0 : Int32) v3 h))
set_option maxHeartbeats 4000000 in
set_option maxRecDepth 100000 in
theorem f_Sets_findOpenSets_s2_ok {g : xG} {l : Launch} {d : Nat} {i1 : Nat} {i2 : Nat} {v3 : Int32} {h : xH} {o : ((Int32 × xH) ⊕ xH)} {R : Option xV} {H' : xH} (hD : 1 ≤ d) (hf : f_Sets_findOpenSets_s2 i1 i2 v3 h = some o) (K1 : ∀ (w3 : Int32) (h1 : xH), o = Sum.inl (w3, h1) → xEv g l d 31 2 [(0, xr 5 (some 0)), (1, xr 8 (some i1)), (2, xr 6 (some i2)), (3, xi w3)] [] h1 R H') (K0 : ∀ (h1 : xH), o = Sum.inr (h1) → R = none ∧ H' = h1) : xEv g l d 31 2 [(0, xr 5 (some 0)), (1, xr 8 (some i1)), (2, xr 6 (some i2)), (3, xi v3)] [] h R H' := by
  unfold f_Sets_findOpenSets_s2 at hf
  refine xs_iload_n d31_2 rfl ?_
  refine xs_sipush (v := 256) d31_3 (by decide) ?_
  rcases lk_if hf with ⟨hc1, hf⟩ | ⟨hc1, hf⟩
  · refine xs_icmp_ge (tgt := 156) d31_6 (by decide) (fun _ => ?_) (fun hn => absurd hc1 hn)
    obtain ⟨eR, eH⟩ := K0 _ (Option.some.inj hf).symm
    subst eR; subst eH
    exact xs_vret d31_156 rt31
  · refine xs_icmp_ge (tgt := 156) d31_6 (by decide) (fun hp => absurd hp hc1) (fun _ => ?_)
    refine xs_aload_n d31_9 rfl ?_
    refine xe_getc (j := 0) d31_10 ky31 fl137 fk5_11 rfl ?_
    refine xs_iload_n d31_13 rfl ?_
    refine xs_iload_n d31_14 rfl ?_
    rcases lk_if hf with ⟨hc2, hf⟩ | ⟨hc2, hf⟩
    · refine xs_if_ne (tgt := 22) d31_15 (by decide) (fun _ => ?_) (fun hn => absurd hc2 hn)
      refine xs_iconst (v := 1) d31_18 (by decide) ?_
      refine xs_goto (tgt := 23) d31_19 (by decide) ?_
      exact f_Sets_findOpenSets_b23_ok hD hf K1 K0
    · refine xs_if_ne (tgt := 22) d31_15 (by decide) (fun hp => absurd hp hc2) (fun _ => ?_)
      refine xs_iconst (v := 0) d31_22 (by decide) ?_
      exact f_Sets_findOpenSets_b23_ok hD hf K1 K0
noncomputable def f_Sets_findOpenSets_l2 (i1 : Nat) (i2 : Nat) (v3 : Int32) (h : xH) : Option xH :=
  whl (fun s => f_Sets_findOpenSets_s2 i1 i2 s.1 s.2) (v3, h)
theorem f_Sets_findOpenSets_l2_ok {g : xG} {l : Launch} {d : Nat} {i1 : Nat} {i2 : Nat} {v3 : Int32} {h : xH} {o : xH} {R : Option xV} {H' : xH} (hD : 1 ≤ d) (hf : f_Sets_findOpenSets_l2 i1 i2 v3 h = some o) (K0 : ∀ (h1 : xH), o = h1 → R = none ∧ H' = h1) : xEv g l d 31 2 [(0, xr 5 (some 0)), (1, xr 8 (some i1)), (2, xr 6 (some i2)), (3, xi v3)] [] h R H' := by
  obtain ⟨n, hn⟩ := whl_iff.mp hf
  clear hf
  induction n generalizing v3 h with
  | zero => cases hn
  | succ n ih =>
    obtain ⟨o2, hs, hn⟩ := lk_b (show (f_Sets_findOpenSets_s2 i1 i2 v3 h).bind (fun o => Sum.elim (itn _ n) some o) = some o from hn)
    exact f_Sets_findOpenSets_s2_ok hD hs (fun u0 u1 e => ih (by rw [e] at hn; exact hn)) (fun u0 e => K0 u0 (by rw [e] at hn; exact (Option.some.inj hn).symm))
noncomputable def f_Sets_findOpenSets_e (i1 : Nat) (i2 : Nat) (h : xH) : Option xH :=
  f_Sets_findOpenSets_l2 i1 i2 (0 : Int32) h
set_option maxHeartbeats 4000000 in
set_option maxRecDepth 100000 in
theorem f_Sets_findOpenSets_e_ok {g : xG} {l : Launch} {d : Nat} {i1 : Nat} {i2 : Nat} {h : xH} {o : xH} {R : Option xV} {H' : xH} (hD : 1 ≤ d) (hf : f_Sets_findOpenSets_e i1 i2 h = some o) (K0 : ∀ (h1 : xH), o = h1 → R = none ∧ H' = h1) : xEv g l d 31 0 [(0, xr 5 (some 0)), (1, xr 8 (some i1)), (2, xr 6 (some i2))] [] h R H' := by
  unfold f_Sets_findOpenSets_e at hf
  refine xs_iconst (v := 0) d31_0 (by decide) ?_
  refine xe_istore_n (v := (0 : Int32)) (ls2 := [(0, xr 5 (some 0)), (1, xr 8 (some i1)), (2, xr 6 (some i2)), (3, xi (0 : Int32))]) d31_1 mx31 (by decide) rfl rfl ?_
  exact f_Sets_findOpenSets_l2_ok hD hf K0
noncomputable def f_Sets_findOpenSets (i1 : Nat) (i2 : Nat) (h : xH) : Option xH := f_Sets_findOpenSets_e i1 i2 h
theorem f_Sets_findOpenSets_ok {g : xG} {l : Launch} {d : Nat} {i1 : Nat} {i2 : Nat} {h : xH} {h1 : xH} (hD : 1 ≤ d) (hf : f_Sets_findOpenSets i1 i2 h = some h1) : xC g l d 31 [xr 5 (some 0), xr 8 (some i1), xr 6 (some i2)] h none h1 :=
  xC_of2 (by decide) mx31 (Nat.le_of_ble_eq_true rfl) (f_Sets_findOpenSets_e_ok hD hf (fun _ e => ⟨rfl, e⟩))
theorem d32_0 : decode (xcode 32) 0 = .ok (.aload_n 0, 1) := by decide +kernel
theorem d32_1 : decode (xcode 32) 1 = .ok (.iconst 0, 1) := by decide +kernel
theorem d32_2 : decode (xcode 32) 2 = .ok (.putfield 85, 3) := by decide +kernel
theorem d32_5 : decode (xcode 32) 5 = .ok (.aload_n 0, 1) := by decide +kernel
theorem d32_6 : decode (xcode 32) 6 = .ok (.iconst 0, 1) := by decide +kernel
theorem d32_7 : decode (xcode 32) 7 = .ok (.putfield 88, 3) := by decide +kernel
theorem d32_10 : decode (xcode 32) 10 = .ok (.iconst 1, 1) := by decide +kernel
theorem d32_11 : decode (xcode 32) 11 = .ok (.istore_n 1, 1) := by decide +kernel
theorem d32_12 : decode (xcode 32) 12 = .ok (.iload_n 1, 1) := by decide +kernel
theorem d32_13 : decode (xcode 32) 13 = .ok (.sipush 256, 3) := by decide +kernel
theorem d32_16 : decode (xcode 32) 16 = .ok (.if_icmp .ge 87, 3) := by decide +kernel
theorem d32_19 : decode (xcode 32) 19 = .ok (.aload_n 0, 1) := by decide +kernel
theorem d32_20 : decode (xcode 32) 20 = .ok (.getfield 15, 3) := by decide +kernel
theorem d32_23 : decode (xcode 32) 23 = .ok (.iload_n 1, 1) := by decide +kernel
theorem d32_24 : decode (xcode 32) 24 = .ok (.iaload, 1) := by decide +kernel
theorem d32_25 : decode (xcode 32) 25 = .ok (.aload_n 0, 1) := by decide +kernel
theorem d32_26 : decode (xcode 32) 26 = .ok (.getfield 85, 3) := by decide +kernel
theorem d32_29 : decode (xcode 32) 29 = .ok (.if_icmp .gt 29, 3) := by decide +kernel
theorem d32_32 : decode (xcode 32) 32 = .ok (.aload_n 0, 1) := by decide +kernel
theorem d32_33 : decode (xcode 32) 33 = .ok (.getfield 15, 3) := by decide +kernel
theorem d32_36 : decode (xcode 32) 36 = .ok (.iload_n 1, 1) := by decide +kernel
theorem d32_37 : decode (xcode 32) 37 = .ok (.iaload, 1) := by decide +kernel
theorem d32_38 : decode (xcode 32) 38 = .ok (.aload_n 0, 1) := by decide +kernel
theorem d32_39 : decode (xcode 32) 39 = .ok (.getfield 85, 3) := by decide +kernel
theorem d32_42 : decode (xcode 32) 42 = .ok (.if_icmp .ne 20, 3) := by decide +kernel
theorem d32_45 : decode (xcode 32) 45 = .ok (.aload_n 0, 1) := by decide +kernel
theorem d32_46 : decode (xcode 32) 46 = .ok (.getfield 18, 3) := by decide +kernel
theorem d32_49 : decode (xcode 32) 49 = .ok (.iload_n 1, 1) := by decide +kernel
theorem d32_50 : decode (xcode 32) 50 = .ok (.iaload, 1) := by decide +kernel
theorem d32_51 : decode (xcode 32) 51 = .ok (.aload_n 0, 1) := by decide +kernel
theorem d32_52 : decode (xcode 32) 52 = .ok (.getfield 88, 3) := by decide +kernel
theorem d32_55 : decode (xcode 32) 55 = .ok (.if_icmp .ge 7, 3) := by decide +kernel
theorem d32_58 : decode (xcode 32) 58 = .ok (.iconst 1, 1) := by decide +kernel
theorem d32_59 : decode (xcode 32) 59 = .ok (.goto 4, 3) := by decide +kernel
theorem d32_62 : decode (xcode 32) 62 = .ok (.iconst 0, 1) := by decide +kernel
theorem d32_63 : decode (xcode 32) 63 = .ok (.istore_n 2, 1) := by decide +kernel
theorem d32_64 : decode (xcode 32) 64 = .ok (.aload_n 0, 1) := by decide +kernel
theorem d32_65 : decode (xcode 32) 65 = .ok (.getfield 24, 3) := by decide +kernel
theorem d32_68 : decode (xcode 32) 68 = .ok (.iload_n 1, 1) := by decide +kernel
theorem d32_69 : decode (xcode 32) 69 = .ok (.baload, 1) := by decide +kernel
theorem d32_70 : decode (xcode 32) 70 = .ok (.ifCond .eq 27, 3) := by decide +kernel
theorem d32_73 : decode (xcode 32) 73 = .ok (.iload_n 2, 1) := by decide +kernel
theorem d32_74 : decode (xcode 32) 74 = .ok (.ifCond .eq 23, 3) := by decide +kernel
theorem d32_77 : decode (xcode 32) 77 = .ok (.aload_n 0, 1) := by decide +kernel
theorem d32_78 : decode (xcode 32) 78 = .ok (.aload_n 0, 1) := by decide +kernel
theorem d32_79 : decode (xcode 32) 79 = .ok (.getfield 15, 3) := by decide +kernel
theorem d32_82 : decode (xcode 32) 82 = .ok (.iload_n 1, 1) := by decide +kernel
theorem d32_83 : decode (xcode 32) 83 = .ok (.iaload, 1) := by decide +kernel
theorem d32_84 : decode (xcode 32) 84 = .ok (.putfield 85, 3) := by decide +kernel
theorem d32_87 : decode (xcode 32) 87 = .ok (.aload_n 0, 1) := by decide +kernel
theorem d32_88 : decode (xcode 32) 88 = .ok (.aload_n 0, 1) := by decide +kernel
theorem d32_89 : decode (xcode 32) 89 = .ok (.getfield 18, 3) := by decide +kernel
theorem d32_92 : decode (xcode 32) 92 = .ok (.iload_n 1, 1) := by decide +kernel
theorem d32_93 : decode (xcode 32) 93 = .ok (.iaload, 1) := by decide +kernel
theorem d32_94 : decode (xcode 32) 94 = .ok (.putfield 88, 3) := by decide +kernel
theorem d32_97 : decode (xcode 32) 97 = .ok (.iinc 1 1, 3) := by decide +kernel
theorem d32_100 : decode (xcode 32) 100 = .ok (.goto (-88), 3) := by decide +kernel
theorem d32_103 : decode (xcode 32) 103 = .ok (.return_, 1) := by decide +kernel
noncomputable def f_Sets_findBestSums_b97 (v1 : Int32) (h : xH) : Option ((Int32 × xH) ⊕ xH) :=
  xlet (v1 + (1 : Int32)) fun v1_8 =>
  some (Sum.inl (v1_8, h))
set_option maxHeartbeats 4000000 in
set_option maxRecDepth 100000 in
theorem f_Sets_findBestSums_b97_ok {g : xG} {l : Launch} {d : Nat} {v1 : Int32} {h : xH} {o : ((Int32 × xH) ⊕ xH)} {R : Option xV} {H' : xH} (hD : 0 ≤ d) (hf : f_Sets_findBestSums_b97 v1 h = some o) (K1 : ∀ (w1 : Int32) (h1 : xH), o = Sum.inl (w1, h1) → xEv g l d 32 12 [(0, xr 5 (some 0)), (1, xi w1)] [] h1 R H') (K0 : ∀ (h1 : xH), o = Sum.inr (h1) → R = none ∧ H' = h1) : xEv g l d 32 97 [(0, xr 5 (some 0)), (1, xi v1)] [] h R H' := by
  unfold f_Sets_findBestSums_b97 at hf
  obtain ⟨v1_8, ev1_8, hf⟩ := lk_let hf
  refine xe_iinc (v := v1_8) (b := 1) (ls2 := [(0, xr 5 (some 0)), (1, xi v1_8)]) d32_97 mx32 (by decide) rfl (by decide) ev1_8 rfl ?_
  refine xs_goto (tgt := 12) d32_100 (by decide) ?_
  exact K1 _ _ (Option.some.inj hf).symm
noncomputable def f_Sets_findBestSums_b63 (v1 : Int32) (t0 : Int32) (h : xH) : Option ((Int32 × xH) ⊕ xH) :=
  if xib v1 256 then (
  if (h.2.2.2.1 26 0 (v1).toNatClampNeg) = (0 : Int32) then (
  f_Sets_findBestSums_b97 v1 h) else (
  if t0 = (0 : Int32) then (
  f_Sets_findBestSums_b97 v1 h) else (
  if xib v1 256 then (
  xlet (xsI h 5 2 0 (h.2.2.2.1 23 0 (v1).toNatClampNeg)) fun h11 =>
  if xib v1 256 then (
  xlet (xsI h11 5 3 0 (h11.2.2.2.1 24 0 (v1).toNatClampNeg)) fun h13 =>
  f_Sets_findBestSums_b97 v1 h13) else none) else none))) else none
set_option maxHeartbeats 4000000 in
set_option maxRecDepth 100000 in
theorem f_Sets_findBestSums_b63_ok {g : xG} {l : Launch} {d : Nat} {v1 : Int32} {t0 : Int32} {h : xH} {o : ((Int32 × xH) ⊕ xH)} {R : Option xV} {H' : xH} (hD : 0 ≤ d) (hf : f_Sets_findBestSums_b63 v1 t0 h = some o) (K1 : ∀ (w1 : Int32) (h1 : xH), o = Sum.inl (w1, h1) → xEv g l d 32 12 [(0, xr 5 (some 0)), (1, xi w1)] [] h1 R H') (K0 : ∀ (h1 : xH), o = Sum.inr (h1) → R = none ∧ H' = h1) : xEv g l d 32 63 [(0, xr 5 (some 0)), (1, xi v1)] [xi t0] h R H' := by
  unfold f_Sets_findBestSums_b63 at hf
  refine xe_istore_n (v := t0) (ls2 := [(0, xr 5 (some 0)), (1, xi v1), (2, xi t0)]) d32_63 mx32 (by decide) rfl rfl ?_
  refine xs_aload_n d32_64 rfl ?_
  refine xe_getc (j := 0) d32_65 ky32 fl137 fk5_11 rfl ?_
  refine xs_iload_n d32_68 rfl ?_
  obtain ⟨hin6, hf⟩ := lk_g hf
  refine xe_zald d32_69 (by decide) ak26 hin6 ?_
  rcases lk_if hf with ⟨hc7, hf⟩ | ⟨hc7, hf⟩
  · refine xs_if_eq (tgt := 97) d32_70 (by decide) (fun _ => ?_) (fun hn => absurd hc7 hn)
    refine xs_pick [0, 1] rfl ?_
    exact f_Sets_findBestSums_b97_ok hD hf K1 K0
  · refine xs_if_eq (tgt := 97) d32_70 (by decide) (fun hp => absurd hp hc7) (fun _ => ?_)
    refine xs_iload_n d32_73 rfl ?_
    rcases lk_if hf with ⟨hc9, hf⟩ | ⟨hc9, hf⟩
    · refine xs_if_eq (tgt := 97) d32_74 (by decide) (fun _ => ?_) (fun hn => absurd hc9 hn)
      refine xs_pick [0, 1] rfl ?_
      exact f_Sets_findBestSums_b97_ok hD hf K1 K0
    · refine xs_if_eq (tgt := 97) d32_74 (by decide) (fun hp => absurd hp hc9) (fun _ => ?_)
      refine xs_aload_n d32_77 rfl ?_
      refine xs_aload_n d32_78 rfl ?_
      refine xe_getc (j := 0) d32_79 ky32 fl134 fk5_8 rfl ?_
      refine xs_iload_n d32_82 rfl ?_
      obtain ⟨hin10, hf⟩ := lk_g hf
      refine xe_iald d32_83 (by decide) ak23 hin10 ?_
      obtain ⟨h11, eh11, hf⟩ := lk_let hf
      refine xe_puti d32_84 ky32 fl122 fk5_2 ft5_2 eh11 ?_
      refine xs_aload_n d32_87 rfl ?_
      refine xs_aload_n d32_88 rfl ?_
      refine xe_getc (j := 0) d32_89 ky32 fl135 fk5_9 rfl ?_
      refine xs_iload_n d32_92 rfl ?_
      obtain ⟨hin12, hf⟩ := lk_g hf
      refine xe_iald d32_93 (by decide) ak24 hin12 ?_
      obtain ⟨h13, eh13, hf⟩ := lk_let hf
      refine xe_puti d32_94 ky32 fl124 fk5_3 ft5_3 eh13 ?_
      refine xs_pick [0, 1] rfl ?_
      exact f_Sets_findBestSums_b97_ok hD hf K1 K0
noncomputable def f_Sets_findBestSums_b58 (v1 : Int32) (h : xH) : Option ((Int32 × xH) ⊕ xH) :=
  f_Sets_findBestSums_b63 v1 (1 : Int32) h
set_option maxHeartbeats 4000000 in
set_option maxRecDepth 100000 in
theorem f_Sets_findBestSums_b58_ok {g : xG} {l : Launch} {d : Nat} {v1 : Int32} {h : xH} {o : ((Int32 × xH) ⊕ xH)} {R : Option xV} {H' : xH} (hD : 0 ≤ d) (hf : f_Sets_findBestSums_b58 v1 h = some o) (K1 : ∀ (w1 : Int32) (h1 : xH), o = Sum.inl (w1, h1) → xEv g l d 32 12 [(0, xr 5 (some 0)), (1, xi w1)] [] h1 R H') (K0 : ∀ (h1 : xH), o = Sum.inr (h1) → R = none ∧ H' = h1) : xEv g l d 32 58 [(0, xr 5 (some 0)), (1, xi v1)] [] h R H' := by
  unfold f_Sets_findBestSums_b58 at hf
  refine xs_iconst (v := 1) d32_58 (by decide) ?_
  refine xs_goto (tgt := 63) d32_59 (by decide) ?_
  exact f_Sets_findBestSums_b63_ok hD hf K1 K0
noncomputable def f_Sets_findBestSums_b62 (v1 : Int32) (h : xH) : Option ((Int32 × xH) ⊕ xH) :=
  f_Sets_findBestSums_b63 v1 (0 : Int32) h
set_option maxHeartbeats 4000000 in
set_option maxRecDepth 100000 in
theorem f_Sets_findBestSums_b62_ok {g : xG} {l : Launch} {d : Nat} {v1 : Int32} {h : xH} {o : ((Int32 × xH) ⊕ xH)} {R : Option xV} {H' : xH} (hD : 0 ≤ d) (hf : f_Sets_findBestSums_b62 v1 h = some o) (K1 : ∀ (w1 : Int32) (h1 : xH), o = Sum.inl (w1, h1) → xEv g l d 32 12 [(0, xr 5 (some 0)), (1, xi w1)] [] h1 R H') (K0 : ∀ (h1 : xH), o = Sum.inr (h1) → R = none ∧ H' = h1) : xEv g l d 32 62 [(0, xr 5 (some 0)), (1, xi v1)] [] h R H' := by
  unfold f_Sets_findBestSums_b62 at hf
  refine xs_iconst (v := 0) d32_62 (by decide) ?_
  exact f_Sets_findBestSums_b63_ok hD hf K1 K0
noncomputable def f_Sets_findBestSums_s12 (v1 : Int32) (h : xH) : Option ((Int32 × xH) ⊕ xH) :=
  if (256 : Int32) ≤ v1 then (
  some (Sum.inr (h))) else (
  if xib v1 256 then (
  if (h.1 5 2 0) < (h.2.2.2.1 23 0 (v1).toNatClampNeg) then (
  f_Sets_findBestSums_b58 v1 h) else (
  if xib v1 256 then (
  if (h.2.2.2.1 23 0 (v1).toNatClampNeg) = (h.1 5 2 0) then (
  if xib v1 256 then (
  if (h.1 5 3 0) ≤ (h.2.2.2.1 24 0 (v1).toNatClampNeg) then (
  f_Sets_findBestSums_b62 v1 h) else (
  f_Sets_findBestSums_b58 v1 h)) else none) else (
  f_Sets_findBestSums_b62 v1 h)) else none)) else none)
set_option maxHeartbeats 4000000 in
set_option maxRecDepth 100000 in
theorem f_Sets_findBestSums_s12_ok {g : xG} {l : Launch} {d : Nat} {v1 : Int32} {h : xH} {o : ((Int32 × xH) ⊕ xH)} {R : Option xV} {H' : xH} (hD : 0 ≤ d) (hf : f_Sets_findBestSums_s12 v1 h = some o) (K1 : ∀ (w1 : Int32) (h1 : xH), o = Sum.inl (w1, h1) → xEv g l d 32 12 [(0, xr 5 (some 0)), (1, xi w1)] [] h1 R H') (K0 : ∀ (h1 : xH), o = Sum.inr (h1) → R = none ∧ H' = h1) : xEv g l d 32 12 [(0, xr 5 (some 0)), (1, xi v1)] [] h R H' := by
  unfold f_Sets_findBestSums_s12 at hf
  refine xs_iload_n d32_12 rfl ?_
  refine xs_sipush (v := 256) d32_13 (by decide) ?_
  rcases lk_if hf with ⟨hc3, hf⟩ | ⟨hc3, hf⟩
  · refine xs_icmp_ge (tgt := 103) d32_16 (by decide) (fun _ => ?_) (fun hn => absurd hc3 hn)
    obtain ⟨eR, eH⟩ := K0 _ (Option.some.inj hf).symm
    subst eR; subst eH
    exact xs_vret d32_103 rt32
  · refine xs_icmp_ge (tgt := 103) d32_16 (by decide) (fun hp => absurd hp hc3) (fun _ => ?_)
    refine xs_aload_n d32_19 rfl ?_
    refine xe_getc (j := 0) d32_20 ky32 fl134 fk5_8 rfl ?_
    refine xs_iload_n d32_23 rfl ?_
    obtain ⟨hin4, hf⟩ := lk_g hf
    refine xe_iald d32_24 (by decide) ak23 hin4 ?_
    refine xs_aload_n d32_25 rfl ?_
    refine xe_geti d32_26 ky32 fl122 fk5_2 ?_
    rcases lk_if hf with ⟨hc5, hf⟩ | ⟨hc5, hf⟩
    · refine xs_icmp_gt (tgt := 58) d32_29 (by decide) (fun _ => ?_) (fun hn => absurd hc5 hn)
      exact f_Sets_findBestSums_b58_ok hD hf K1 K0
    · refine xs_icmp_gt (tgt := 58) d32_29 (by decide) (fun hp => absurd hp hc5) (fun _ => ?_)
      refine xs_aload_n d32_32 rfl ?_
      refine xe_getc (j := 0) d32_33 ky32 fl134 fk5_8 rfl ?_
      refine xs_iload_n d32_36 rfl ?_
      obtain ⟨hin14, hf⟩ := lk_g hf
      refine xe_iald d32_37 (by decide) ak23 hin14 ?_
      refine xs_aload_n d32_38 rfl ?_
      refine xe_geti d32_39 ky32 fl122 fk5_2 ?_
      rcases lk_if hf with ⟨hc15, hf⟩ | ⟨hc15, hf⟩
      · refine xs_icmp_ne (tgt := 62) d32_42 (by decide) (fun _ => ?_) (fun hn => absurd hc15 hn)
        refine xs_aload_n d32_45 rfl ?_
        refine xe_getc (j := 0) d32_46 ky32 fl135 fk5_9 rfl ?_
        refine xs_iload_n d32_49 rfl ?_
        obtain ⟨hin16, hf⟩ := lk_g hf
        refine xe_iald d32_50 (by decide) ak24 hin16 ?_
        refine xs_aload_n d32_51 rfl ?_
        refine xe_geti d32_52 ky32 fl124 fk5_3 ?_
        rcases lk_if hf with ⟨hc17, hf⟩ | ⟨hc17, hf⟩
        · refine xs_icmp_ge (tgt := 62) d32_55 (by decide) (fun _ => ?_) (fun hn => absurd hc17 hn)
          exact f_Sets_findBestSums_b62_ok hD hf K1 K0
        · refine xs_icmp_ge (tgt := 62) d32_55 (by decide) (fun hp => absurd hp hc17) (fun _ => ?_)
          exact f_Sets_findBestSums_b58_ok hD hf K1 K0
      · refine xs_icmp_ne (tgt := 62) d32_42 (by decide) (fun hp => absurd hp hc15) (fun _ => ?_)
        exact f_Sets_findBestSums_b62_ok hD hf K1 K0
noncomputable def f_Sets_findBestSums_l12 (v1 : Int32) (h : xH) : Option xH :=
  whl (fun s => f_Sets_findBestSums_s12 s.1 s.2) (v1, h)
theorem f_Sets_findBestSums_l12_ok {g : xG} {l : Launch} {d : Nat} {v1 : Int32} {h : xH} {o : xH} {R : Option xV} {H' : xH} (hD : 0 ≤ d) (hf : f_Sets_findBestSums_l12 v1 h = some o) (K0 : ∀ (h1 : xH), o = h1 → R = none ∧ H' = h1) : xEv g l d 32 12 [(0, xr 5 (some 0)), (1, xi v1)] [] h R H' := by
  obtain ⟨n, hn⟩ := whl_iff.mp hf
  clear hf
  induction n generalizing v1 h with
  | zero => cases hn
  | succ n ih =>
    obtain ⟨o2, hs, hn⟩ := lk_b (show (f_Sets_findBestSums_s12 v1 h).bind (fun o => Sum.elim (itn _ n) some o) = some o from hn)
    exact f_Sets_findBestSums_s12_ok hD hs (fun u0 u1 e => ih (by rw [e] at hn; exact hn)) (fun u0 e => K0 u0 (by rw [e] at hn; exact (Option.some.inj hn).symm))
noncomputable def f_Sets_findBestSums_e (h : xH) : Option xH :=
  xlet (xsI h 5 2 0 (0 : Int32)) fun h1 =>
  xlet (xsI h1 5 3 0 (0 : Int32)) fun h2 =>
  f_Sets_findBestSums_l12 (1 : Int32) h2
set_option maxHeartbeats 4000000 in
set_option maxRecDepth 100000 in
theorem f_Sets_findBestSums_e_ok {g : xG} {l : Launch} {d : Nat} {h : xH} {o : xH} {R : Option xV} {H' : xH} (hD : 0 ≤ d) (hf : f_Sets_findBestSums_e h = some o) (K0 : ∀ (h1 : xH), o = h1 → R = none ∧ H' = h1) : xEv g l d 32 0 [(0, xr 5 (some 0))] [] h R H' := by
  unfold f_Sets_findBestSums_e at hf
  refine xs_aload_n d32_0 rfl ?_
  refine xs_iconst (v := 0) d32_1 (by decide) ?_
  obtain ⟨h1, eh1, hf⟩ := lk_let hf
  refine xe_puti d32_2 ky32 fl122 fk5_2 ft5_2 eh1 ?_
  refine xs_aload_n d32_5 rfl ?_
  refine xs_iconst (v := 0) d32_6 (by decide) ?_
  obtain ⟨h2, eh2, hf⟩ := lk_let hf
  refine xe_puti d32_7 ky32 fl124 fk5_3 ft5_3 eh2 ?_
  refine xs_iconst (v := 1) d32_10 (by decide) ?_
  refine xe_istore_n (v := (1 : Int32)) (ls2 := [(0, xr 5 (some 0)), (1, xi (1 : Int32))]) d32_11 mx32 (by decide) rfl rfl ?_
  exact f_Sets_findBestSums_l12_ok hD hf K0
noncomputable def f_Sets_findBestSums (h : xH) : Option xH := f_Sets_findBestSums_e h
theorem f_Sets_findBestSums_ok {g : xG} {l : Launch} {d : Nat} {h : xH} {h1 : xH} (hD : 0 ≤ d) (hf : f_Sets_findBestSums h = some h1) : xC g l d 32 [xr 5 (some 0)] h none h1 :=
  xC_of2 (by decide) mx32 (Nat.le_of_ble_eq_true rfl) (f_Sets_findBestSums_e_ok hD hf (fun _ e => ⟨rfl, e⟩))
theorem d33_0 : decode (xcode 33) 0 = .ok (.aload_n 0, 1) := by decide +kernel
theorem d33_1 : decode (xcode 33) 1 = .ok (.getfield 24, 3) := by decide +kernel
theorem d33_4 : decode (xcode 33) 4 = .ok (.iload_n 1, 1) := by decide +kernel
theorem d33_5 : decode (xcode 33) 5 = .ok (.baload, 1) := by decide +kernel
theorem d33_6 : decode (xcode 33) 6 = .ok (.ifCond .eq 33, 3) := by decide +kernel
theorem d33_9 : decode (xcode 33) 9 = .ok (.aload_n 0, 1) := by decide +kernel
theorem d33_10 : decode (xcode 33) 10 = .ok (.getfield 15, 3) := by decide +kernel
theorem d33_13 : decode (xcode 33) 13 = .ok (.iload_n 1, 1) := by decide +kernel
theorem d33_14 : decode (xcode 33) 14 = .ok (.iaload, 1) := by decide +kernel
theorem d33_15 : decode (xcode 33) 15 = .ok (.aload_n 0, 1) := by decide +kernel
theorem d33_16 : decode (xcode 33) 16 = .ok (.getfield 85, 3) := by decide +kernel
theorem d33_19 : decode (xcode 33) 19 = .ok (.if_icmp .ne 20, 3) := by decide +kernel
theorem d33_22 : decode (xcode 33) 22 = .ok (.aload_n 0, 1) := by decide +kernel
theorem d33_23 : decode (xcode 33) 23 = .ok (.getfield 18, 3) := by decide +kernel
theorem d33_26 : decode (xcode 33) 26 = .ok (.iload_n 1, 1) := by decide +kernel
theorem d33_27 : decode (xcode 33) 27 = .ok (.iaload, 1) := by decide +kernel
theorem d33_28 : decode (xcode 33) 28 = .ok (.aload_n 0, 1) := by decide +kernel
theorem d33_29 : decode (xcode 33) 29 = .ok (.getfield 88, 3) := by decide +kernel
theorem d33_32 : decode (xcode 33) 32 = .ok (.if_icmp .ne 7, 3) := by decide +kernel
theorem d33_35 : decode (xcode 33) 35 = .ok (.iconst 1, 1) := by decide +kernel
theorem d33_36 : decode (xcode 33) 36 = .ok (.goto 4, 3) := by decide +kernel
theorem d33_39 : decode (xcode 33) 39 = .ok (.iconst 0, 1) := by decide +kernel
theorem d33_40 : decode (xcode 33) 40 = .ok (.ireturn, 1) := by decide +kernel
noncomputable def f_Sets_isBest_e (v1 : Int32) (h : xH) : Option Int32 :=
  if xib v1 256 then (
  if (h.2.2.2.1 26 0 (v1).toNatClampNeg) = (0 : Int32) then (
  some ((0 : Int32))) else (
  if xib v1 256 then (
  if (h.2.2.2.1 23 0 (v1).toNatClampNeg) = (h.1 5 2 0) then (
  if xib v1 256 then (
  if (h.2.2.2.1 24 0 (v1).toNatClampNeg) = (h.1 5 3 0) then (
  some ((1 : Int32))) else (
  some ((0 : Int32)))) else none) else (
  some ((0 : Int32)))) else none)) else none
set_option maxHeartbeats 4000000 in
set_option maxRecDepth 100000 in
theorem f_Sets_isBest_e_ok {g : xG} {l : Launch} {d : Nat} {v1 : Int32} {h : xH} {o : Int32} {R : Option xV} (hD : 0 ≤ d) (hf : f_Sets_isBest_e v1 h = some o) (K0 : ∀ (a : Int32), o = a → R = some (xi a)) : xEv g l d 33 0 [(0, xr 5 (some 0)), (1, xi v1)] [] h R h := by
  unfold f_Sets_isBest_e at hf
  refine xs_aload_n d33_0 rfl ?_
  refine xe_getc (j := 0) d33_1 ky33 fl137 fk5_11 rfl ?_
  refine xs_iload_n d33_4 rfl ?_
  obtain ⟨hin1, hf⟩ := lk_g hf
  refine xe_zald d33_5 (by decide) ak26 hin1 ?_
  rcases lk_if hf with ⟨hc2, hf⟩ | ⟨hc2, hf⟩
  · refine xs_if_eq (tgt := 39) d33_6 (by decide) (fun _ => ?_) (fun hn => absurd hc2 hn)
    refine xs_iconst (v := 0) d33_39 (by decide) ?_
    obtain eR := K0 _ (Option.some.inj hf).symm
    subst eR
    exact xe_zret d33_40 (Or.inl rfl) rt33
  · refine xs_if_eq (tgt := 39) d33_6 (by decide) (fun hp => absurd hp hc2) (fun _ => ?_)
    refine xs_aload_n d33_9 rfl ?_
    refine xe_getc (j := 0) d33_10 ky33 fl134 fk5_8 rfl ?_
    refine xs_iload_n d33_13 rfl ?_
    obtain ⟨hin3, hf⟩ := lk_g hf
    refine xe_iald d33_14 (by decide) ak23 hin3 ?_
    refine xs_aload_n d33_15 rfl ?_
    refine xe_geti d33_16 ky33 fl122 fk5_2 ?_
    rcases lk_if hf with ⟨hc4, hf⟩ | ⟨hc4, hf⟩
    · refine xs_icmp_ne (tgt := 39) d33_19 (by decide) (fun _ => ?_) (fun hn => absurd hc4 hn)
      refine xs_aload_n d33_22 rfl ?_
      refine xe_getc (j := 0) d33_23 ky33 fl135 fk5_9 rfl ?_
      refine xs_iload_n d33_26 rfl ?_
      obtain ⟨hin5, hf⟩ := lk_g hf
      refine xe_iald d33_27 (by decide) ak24 hin5 ?_
      refine xs_aload_n d33_28 rfl ?_
      refine xe_geti d33_29 ky33 fl124 fk5_3 ?_
      rcases lk_if hf with ⟨hc6, hf⟩ | ⟨hc6, hf⟩
      · refine xs_icmp_ne (tgt := 39) d33_32 (by decide) (fun _ => ?_) (fun hn => absurd hc6 hn)
        refine xs_iconst (v := 1) d33_35 (by decide) ?_
        refine xs_goto (tgt := 40) d33_36 (by decide) ?_
        obtain eR := K0 _ (Option.some.inj hf).symm
        subst eR
        exact xe_zret d33_40 (Or.inr rfl) rt33
      · refine xs_icmp_ne (tgt := 39) d33_32 (by decide) (fun hp => absurd hp hc6) (fun _ => ?_)
        refine xs_iconst (v := 0) d33_39 (by decide) ?_
        obtain eR := K0 _ (Option.some.inj hf).symm
        subst eR
        exact xe_zret d33_40 (Or.inl rfl) rt33
    · refine xs_icmp_ne (tgt := 39) d33_19 (by decide) (fun hp => absurd hp hc4) (fun _ => ?_)
      refine xs_iconst (v := 0) d33_39 (by decide) ?_
      obtain eR := K0 _ (Option.some.inj hf).symm
      subst eR
      exact xe_zret d33_40 (Or.inl rfl) rt33
noncomputable def f_Sets_isBest (v1 : Int32) (h : xH) : Option Int32 := f_Sets_isBest_e v1 h
theorem f_Sets_isBest_ok {g : xG} {l : Launch} {d : Nat} {v1 : Int32} {h : xH} {r : Int32} (hD : 0 ≤ d) (hf : f_Sets_isBest v1 h = some r) : xC g l d 33 [xr 5 (some 0), xi v1] h (some (xi r)) h :=
  xC_of2 (by decide) mx33 (Nat.le_of_ble_eq_true rfl) (f_Sets_isBest_e_ok hD hf (fun _ e => by rw [e]))
theorem d34_0 : decode (xcode 34) 0 = .ok (.aload_n 1, 1) := by decide +kernel
theorem d34_1 : decode (xcode 34) 1 = .ok (.iload_n 3, 1) := by decide +kernel
theorem d34_2 : decode (xcode 34) 2 = .ok (.invokevirtual 91, 3) := by decide +kernel
theorem d34_5 : decode (xcode 34) 5 = .ok (.ifCond .eq 46, 3) := by decide +kernel
theorem d34_8 : decode (xcode 34) 8 = .ok (.iload_n 2, 1) := by decide +kernel
theorem d34_9 : decode (xcode 34) 9 = .ok (.iload_n 3, 1) := by decide +kernel
theorem d34_10 : decode (xcode 34) 10 = .ok (.invokestatic 78, 3) := by decide +kernel
theorem d34_13 : decode (xcode 34) 13 = .ok (.ifCond .ne 38, 3) := by decide +kernel
theorem d34_16 : decode (xcode 34) 16 = .ok (.aload_n 1, 1) := by decide +kernel
theorem d34_17 : decode (xcode 34) 17 = .ok (.getfield 82, 3) := by decide +kernel
theorem d34_20 : decode (xcode 34) 20 = .ok (.iload_n 3, 1) := by decide +kernel
theorem d34_21 : decode (xcode 34) 21 = .ok (.iaload, 1) := by decide +kernel
theorem d34_22 : decode (xcode 34) 22 = .ok (.aload_n 1, 1) := by decide +kernel
theorem d34_23 : decode (xcode 34) 23 = .ok (.getfield 68, 3) := by decide +kernel
theorem d34_26 : decode (xcode 34) 26 = .ok (.iand, 1) := by decide +kernel
theorem d34_27 : decode (xcode 34) 27 = .ok (.iload_n 2, 1) := by decide +kernel
theorem d34_28 : decode (xcode 34) 28 = .ok (.iconst (-1), 1) := by decide +kernel
theorem d34_29 : decode (xcode 34) 29 = .ok (.ixor, 1) := by decide +kernel
theorem d34_30 : decode (xcode 34) 30 = .ok (.iand, 1) := by decide +kernel
theorem d34_31 : decode (xcode 34) 31 = .ok (.ifCond .ne 20, 3) := by decide +kernel
theorem d34_34 : decode (xcode 34) 34 = .ok (.aload_n 0, 1) := by decide +kernel
theorem d34_35 : decode (xcode 34) 35 = .ok (.getfield 28, 3) := by decide +kernel
theorem d34_38 : decode (xcode 34) 38 = .ok (.iload_n 2, 1) := by decide +kernel
theorem d34_39 : decode (xcode 34) 39 = .ok (.iconst 1, 1) := by decide +kernel
theorem d34_40 : decode (xcode 34) 40 = .ok (.iload_n 3, 1) := by decide +kernel
theorem d34_41 : decode (xcode 34) 41 = .ok (.ishl, 1) := by decide +kernel
theorem d34_42 : decode (xcode 34) 42 = .ok (.ior, 1) := by decide +kernel
theorem d34_43 : decode (xcode 34) 43 = .ok (.baload, 1) := by decide +kernel
theorem d34_44 : decode (xcode 34) 44 = .ok (.ifCond .eq 7, 3) := by decide +kernel
theorem d34_47 : decode (xcode 34) 47 = .ok (.iconst 1, 1) := by decide +kernel
theorem d34_48 : decode (xcode 34) 48 = .ok (.goto 4, 3) := by decide +kernel
theorem d34_51 : decode (xcode 34) 51 = .ok (.iconst 0, 1) := by decide +kernel
theorem d34_52 : decode (xcode 34) 52 = .ok (.ireturn, 1) := by decide +kernel
noncomputable def f_Sets_leadsOn_e (i1 : Nat) (v2 : Int32) (v3 : Int32) (h : xH) : Option Int32 :=
  (f_State_isIn i1 v3 h).bind fun r1 =>
  if r1 = (0 : Int32) then (
  some ((0 : Int32))) else (
  (f_Sets_has v2 v3 h).bind fun r4 =>
  if r4 = (0 : Int32) then (
  if xib v3 8 then (
  if (((h.2.2.2.1 30 i1 (v3).toNatClampNeg) &&& (h.1 6 2 i1)) &&& (v2 ^^^ (-1 : Int32))) = (0 : Int32) then (
  if xib (v2 ||| ((1 : Int32) <<< (v3 &&& 31))) 256 then (
  if (h.2.2.2.1 27 0 (v2 ||| ((1 : Int32) <<< (v3 &&& 31))).toNatClampNeg) = (0 : Int32) then (
  some ((0 : Int32))) else (
  some ((1 : Int32)))) else none) else (
  some ((0 : Int32)))) else none) else (
  some ((0 : Int32))))
set_option maxHeartbeats 4000000 in
set_option maxRecDepth 100000 in
theorem f_Sets_leadsOn_e_ok {g : xG} {l : Launch} {d : Nat} {i1 : Nat} {v2 : Int32} {v3 : Int32} {h : xH} {o : Int32} {R : Option xV} (hD : 1 ≤ d) (hf : f_Sets_leadsOn_e i1 v2 v3 h = some o) (K0 : ∀ (a : Int32), o = a → R = some (xi a)) : xEv g l d 34 0 [(0, xr 5 (some 0)), (1, xr 6 (some i1)), (2, xi v2), (3, xi v3)] [] h R h := by
  unfold f_Sets_leadsOn_e at hf
  refine xs_aload_n d34_0 rfl ?_
  refine xs_iload_n d34_1 rfl ?_
  obtain ⟨r1, hc2, hf⟩ := lk_b hf
  refine xe_callv1 (as := [xi v3]) (st := []) (h2 := h) (d2 := d - 1) d34_2 ky34 ml123 st47 (by decide) cn47 rfl na47 (Nat.le_of_ble_eq_true rfl) (by omega) (f_State_isIn_ok (by omega) hc2) ?_
  rcases lk_if hf with ⟨hc3, hf⟩ | ⟨hc3, hf⟩
  · refine xs_if_eq (tgt := 51) d34_5 (by decide) (fun _ => ?_) (fun hn => absurd hc3 hn)
    refine xs_iconst (v := 0) d34_51 (by decide) ?_
    obtain eR := K0 _ (Option.some.inj hf).symm
    subst eR
    exact xe_zret d34_52 (Or.inl rfl) rt34
  · refine xs_if_eq (tgt := 51) d34_5 (by decide) (fun hp => absurd hp hc3) (fun _ => ?_)
    refine xs_iload_n d34_8 rfl ?_
    refine xs_iload_n d34_9 rfl ?_
    obtain ⟨r4, hc5, hf⟩ := lk_b hf
    refine xe_calls1 (as := [xi v2, xi v3]) (st := []) (h2 := h) (d2 := d - 1) d34_10 ky34 ml118 st28 rfl na28 (Nat.le_of_ble_eq_true rfl) (by omega) (f_Sets_has_ok (by omega) hc5) ?_
    rcases lk_if hf with ⟨hc6, hf⟩ | ⟨hc6, hf⟩
    · refine xs_if_ne (tgt := 51) d34_13 (by decide) (fun _ => ?_) (fun hn => absurd hc6 hn)
      refine xs_aload_n d34_16 rfl ?_
      refine xe_getc (j := i1) d34_17 ky34 fl85 fk6_5 (by omega) ?_
      refine xs_iload_n d34_20 rfl ?_
      obtain ⟨hin7, hf⟩ := lk_g hf
      refine xe_iald d34_21 (by decide) ak30 hin7 ?_
      refine xs_aload_n d34_22 rfl ?_
      refine xe_geti d34_23 ky34 fl76 fk6_2 ?_
      refine xs_iand d34_26 ?_
      refine xs_iload_n d34_27 rfl ?_
      refine xs_iconst (v := -1) d34_28 (by decide) ?_
      refine xs_ixor d34_29 ?_
      refine xs_iand d34_30 ?_
      rcases lk_if hf with ⟨hc8, hf⟩ | ⟨hc8, hf⟩
      · refine xs_if_ne (tgt := 51) d34_31 (by decide) (fun _ => ?_) (fun hn => absurd hc8 hn)
        refine xs_aload_n d34_34 rfl ?_
        refine xe_getc (j := 0) d34_35 ky34 fl138 fk5_12 rfl ?_
        refine xs_iload_n d34_38 rfl ?_
        refine xs_iconst (v := 1) d34_39 (by decide) ?_
        refine xs_iload_n d34_40 rfl ?_
        refine xs_ishl d34_41 ?_
        refine xs_ior d34_42 ?_
        obtain ⟨hin9, hf⟩ := lk_g hf
        refine xe_zald d34_43 (by decide) ak27 hin9 ?_
        rcases lk_if hf with ⟨hc10, hf⟩ | ⟨hc10, hf⟩
        · refine xs_if_eq (tgt := 51) d34_44 (by decide) (fun _ => ?_) (fun hn => absurd hc10 hn)
          refine xs_iconst (v := 0) d34_51 (by decide) ?_
          obtain eR := K0 _ (Option.some.inj hf).symm
          subst eR
          exact xe_zret d34_52 (Or.inl rfl) rt34
        · refine xs_if_eq (tgt := 51) d34_44 (by decide) (fun hp => absurd hp hc10) (fun _ => ?_)
          refine xs_iconst (v := 1) d34_47 (by decide) ?_
          refine xs_goto (tgt := 52) d34_48 (by decide) ?_
          obtain eR := K0 _ (Option.some.inj hf).symm
          subst eR
          exact xe_zret d34_52 (Or.inr rfl) rt34
      · refine xs_if_ne (tgt := 51) d34_31 (by decide) (fun hp => absurd hp hc8) (fun _ => ?_)
        refine xs_iconst (v := 0) d34_51 (by decide) ?_
        obtain eR := K0 _ (Option.some.inj hf).symm
        subst eR
        exact xe_zret d34_52 (Or.inl rfl) rt34
    · refine xs_if_ne (tgt := 51) d34_13 (by decide) (fun hp => absurd hp hc6) (fun _ => ?_)
      refine xs_iconst (v := 0) d34_51 (by decide) ?_
      obtain eR := K0 _ (Option.some.inj hf).symm
      subst eR
      exact xe_zret d34_52 (Or.inl rfl) rt34
noncomputable def f_Sets_leadsOn (i1 : Nat) (v2 : Int32) (v3 : Int32) (h : xH) : Option Int32 := f_Sets_leadsOn_e i1 v2 v3 h
theorem f_Sets_leadsOn_ok {g : xG} {l : Launch} {d : Nat} {i1 : Nat} {v2 : Int32} {v3 : Int32} {h : xH} {r : Int32} (hD : 1 ≤ d) (hf : f_Sets_leadsOn i1 v2 v3 h = some r) : xC g l d 34 [xr 5 (some 0), xr 6 (some i1), xi v2, xi v3] h (some (xi r)) h :=
  xC_of2 (by decide) mx34 (Nat.le_of_ble_eq_true rfl) (f_Sets_leadsOn_e_ok hD hf (fun _ e => by rw [e]))
theorem d35_0 : decode (xcode 35) 0 = .ok (.sipush 255, 3) := by decide +kernel
theorem d35_3 : decode (xcode 35) 3 = .ok (.istore_n 2, 1) := by decide +kernel
theorem d35_4 : decode (xcode 35) 4 = .ok (.iload_n 2, 1) := by decide +kernel
theorem d35_5 : decode (xcode 35) 5 = .ok (.ifCond .lt 65, 3) := by decide +kernel
theorem d35_8 : decode (xcode 35) 8 = .ok (.aload_n 0, 1) := by decide +kernel
theorem d35_9 : decode (xcode 35) 9 = .ok (.getfield 28, 3) := by decide +kernel
theorem d35_12 : decode (xcode 35) 12 = .ok (.iload_n 2, 1) := by decide +kernel
theorem d35_13 : decode (xcode 35) 13 = .ok (.aload_n 0, 1) := by decide +kernel
theorem d35_14 : decode (xcode 35) 14 = .ok (.iload_n 2, 1) := by decide +kernel
theorem d35_15 : decode (xcode 35) 15 = .ok (.invokevirtual 95, 3) := by decide +kernel
theorem d35_18 : decode (xcode 35) 18 = .ok (.bastore, 1) := by decide +kernel
theorem d35_19 : decode (xcode 35) 19 = .ok (.iconst 0, 1) := by decide +kernel
theorem d35_20 : decode (xcode 35) 20 = .ok (.istore_n 3, 1) := by decide +kernel
theorem d35_21 : decode (xcode 35) 21 = .ok (.iload_n 3, 1) := by decide +kernel
theorem d35_22 : decode (xcode 35) 22 = .ok (.bipush 8, 2) := by decide +kernel
theorem d35_24 : decode (xcode 35) 24 = .ok (.if_icmp .ge 40, 3) := by decide +kernel
theorem d35_27 : decode (xcode 35) 27 = .ok (.aload_n 0, 1) := by decide +kernel
theorem d35_28 : decode (xcode 35) 28 = .ok (.getfield 24, 3) := by decide +kernel
theorem d35_31 : decode (xcode 35) 31 = .ok (.iload_n 2, 1) := by decide +kernel
theorem d35_32 : decode (xcode 35) 32 = .ok (.baload, 1) := by decide +kernel
theorem d35_33 : decode (xcode 35) 33 = .ok (.ifCond .eq 31, 3) := by decide +kernel
theorem d35_36 : decode (xcode 35) 36 = .ok (.aload_n 0, 1) := by decide +kernel
theorem d35_37 : decode (xcode 35) 37 = .ok (.getfield 28, 3) := by decide +kernel
theorem d35_40 : decode (xcode 35) 40 = .ok (.iload_n 2, 1) := by decide +kernel
theorem d35_41 : decode (xcode 35) 41 = .ok (.baload, 1) := by decide +kernel
theorem d35_42 : decode (xcode 35) 42 = .ok (.ifCond .ne 22, 3) := by decide +kernel
theorem d35_45 : decode (xcode 35) 45 = .ok (.aload_n 0, 1) := by decide +kernel
theorem d35_46 : decode (xcode 35) 46 = .ok (.getfield 28, 3) := by decide +kernel
theorem d35_49 : decode (xcode 35) 49 = .ok (.iload_n 2, 1) := by decide +kernel
theorem d35_50 : decode (xcode 35) 50 = .ok (.aload_n 0, 1) := by decide +kernel
theorem d35_51 : decode (xcode 35) 51 = .ok (.aload_n 1, 1) := by decide +kernel
theorem d35_52 : decode (xcode 35) 52 = .ok (.iload_n 2, 1) := by decide +kernel
theorem d35_53 : decode (xcode 35) 53 = .ok (.iload_n 3, 1) := by decide +kernel
theorem d35_54 : decode (xcode 35) 54 = .ok (.invokevirtual 98, 3) := by decide +kernel
theorem d35_57 : decode (xcode 35) 57 = .ok (.bastore, 1) := by decide +kernel
theorem d35_58 : decode (xcode 35) 58 = .ok (.iinc 3 1, 3) := by decide +kernel
theorem d35_61 : decode (xcode 35) 61 = .ok (.goto (-40), 3) := by decide +kernel
theorem d35_64 : decode (xcode 35) 64 = .ok (.iinc 2 (-1), 3) := by decide +kernel
theorem d35_67 : decode (xcode 35) 67 = .ok (.goto (-63), 3) := by decide +kernel
theorem d35_70 : decode (xcode 35) 70 = .ok (.return_, 1) := by decide +kernel
noncomputable def f_Sets_markGoodSets_b64 (i1 : Nat) (v2 : Int32) (h : xH) : Option ((Int32 × xH) ⊕ xH) :=
  xlet (v2 + (-1 : Int32)) fun v2_8 =>
  some (Sum.inl (v2_8, h))
set_option maxHeartbeats 4000000 in
set_option maxRecDepth 100000 in
theorem f_Sets_markGoodSets_b64_ok {g : xG} {l : Launch} {d : Nat} {i1 : Nat} {v2 : Int32} {h : xH} {o : ((Int32 × xH) ⊕ xH)} {R : Option xV} {H' : xH} (hD : 2 ≤ d) (hf : f_Sets_markGoodSets_b64 i1 v2 h = some o) (K1 : ∀ (w2 : Int32) (h1 : xH), o = Sum.inl (w2, h1) → xEv g l d 35 4 [(0, xr 5 (some 0)), (1, xr 6 (some i1)), (2, xi w2)] [] h1 R H') (K0 : ∀ (h1 : xH), o = Sum.inr (h1) → R = none ∧ H' = h1) : xEv g l d 35 64 [(0, xr 5 (some 0)), (1, xr 6 (some i1)), (2, xi v2)] [] h R H' := by
  unfold f_Sets_markGoodSets_b64 at hf
  obtain ⟨v2_8, ev2_8, hf⟩ := lk_let hf
  refine xe_iinc (v := v2_8) (b := -1) (ls2 := [(0, xr 5 (some 0)), (1, xr 6 (some i1)), (2, xi v2_8)]) d35_64 mx35 (by decide) rfl (by decide) ev2_8 rfl ?_
  refine xs_goto (tgt := 4) d35_67 (by decide) ?_
  exact K1 _ _ (Option.some.inj hf).symm
noncomputable def f_Sets_markGoodSets_s21 (i1 : Nat) (v2 : Int32) (v3 : Int32) (h : xH) : Option ((Int32 × xH) ⊕ ((Int32 × xH) ⊕ xH)) :=
  if (8 : Int32) ≤ v3 then (
  xup (f_Sets_markGoodSets_b64 i1 v2 h)) else (
  if xib v2 256 then (
  if (h.2.2.2.1 26 0 (v2).toNatClampNeg) = (0 : Int32) then (
  xup (f_Sets_markGoodSets_b64 i1 v2 h)) else (
  if xib v2 256 then (
  if (h.2.2.2.1 27 0 (v2).toNatClampNeg) = (0 : Int32) then (
  (f_Sets_leadsOn i1 v2 v3 h).bind fun r13 =>
  if xib v2 256 then (
  if r13 = 0 ∨ r13 = 1 then (
  xlet (xsA h 27 0 (upd (h.2.2.2.1 27 0) (v2).toNatClampNeg r13)) fun h16 =>
  xlet (v3 + (1 : Int32)) fun v3_18 =>
  some (Sum.inl (v3_18, h16))) else none) else none) else (
  xup (f_Sets_markGoodSets_b64 i1 v2 h))) else none)) else none)
set_option maxHeartbeats 4000000 in
set_option maxRecDepth 100000 in
theorem f_Sets_markGoodSets_s21_ok {g : xG} {l : Launch} {d : Nat} {i1 : Nat} {v2 : Int32} {v3 : Int32} {h : xH} {o : ((Int32 × xH) ⊕ ((Int32 × xH) ⊕ xH))} {R : Option xV} {H' : xH} (hD : 2 ≤ d) (hf : f_Sets_markGoodSets_s21 i1 v2 v3 h = some o) (K1 : ∀ (w2 : Int32) (h1 : xH), o = Sum.inr (Sum.inl (w2, h1)) → xEv g l d 35 4 [(0, xr 5 (some 0)), (1, xr 6 (some i1)), (2, xi w2)] [] h1 R H') (K2 : ∀ (w3 : Int32) (h1 : xH), o = Sum.inl (w3, h1) → xEv g l d 35 21 [(0, xr 5 (some 0)), (1, xr 6 (some i1)), (2, xi v2), (3, xi w3)] [] h1 R H') (K0 : ∀ (h1 : xH), o = Sum.inr (Sum.inr (h1)) → R = none ∧ H' = h1) : xEv g l d 35 21 [(0, xr 5 (some 0)), (1, xr 6 (some i1)), (2, xi v2), (3, xi v3)] [] h R H' := by
  unfold f_Sets_markGoodSets_s21 at hf
  refine xs_iload_n d35_21 rfl ?_
  refine xs_bipush (v := 8) d35_22 (by decide) ?_
  rcases lk_if hf with ⟨hc7, hf⟩ | ⟨hc7, hf⟩
  · refine xs_icmp_ge (tgt := 64) d35_24 (by decide) (fun _ => ?_) (fun hn => absurd hc7 hn)
    refine xs_pick [0, 1, 2] rfl ?_
    obtain ⟨x0, hf, ex0⟩ := lk_up hf
    exact f_Sets_markGoodSets_b64_ok hD hf (fun u0 u1 e => K1 u0 u1 (ex0.trans (congrArg Sum.inr e))) (fun u0 e => K0 u0 (ex0.trans (congrArg Sum.inr e)))
  · refine xs_icmp_ge (tgt := 64) d35_24 (by decide) (fun hp => absurd hp hc7) (fun _ => ?_)
    refine xs_aload_n d35_27 rfl ?_
    refine xe_getc (j := 0) d35_28 ky35 fl137 fk5_11 rfl ?_
    refine xs_iload_n d35_31 rfl ?_
    obtain ⟨hin9, hf⟩ := lk_g hf
    refine xe_zald d35_32 (by decide) ak26 hin9 ?_
    rcases lk_if hf with ⟨hc10, hf⟩ | ⟨hc10, hf⟩
    · refine xs_if_eq (tgt := 64) d35_33 (by decide) (fun _ => ?_) (fun hn => absurd hc10 hn)
      refine xs_pick [0, 1, 2] rfl ?_
      obtain ⟨x0, hf, ex0⟩ := lk_up hf
      exact f_Sets_markGoodSets_b64_ok hD hf (fun u0 u1 e => K1 u0 u1 (ex0.trans (congrArg Sum.inr e))) (fun u0 e => K0 u0 (ex0.trans (congrArg Sum.inr e)))
    · refine xs_if_eq (tgt := 64) d35_33 (by decide) (fun hp => absurd hp hc10) (fun _ => ?_)
      refine xs_aload_n d35_36 rfl ?_
      refine xe_getc (j := 0) d35_37 ky35 fl138 fk5_12 rfl ?_
      refine xs_iload_n d35_40 rfl ?_
      obtain ⟨hin11, hf⟩ := lk_g hf
      refine xe_zald d35_41 (by decide) ak27 hin11 ?_
      rcases lk_if hf with ⟨hc12, hf⟩ | ⟨hc12, hf⟩
      · refine xs_if_ne (tgt := 64) d35_42 (by decide) (fun _ => ?_) (fun hn => absurd hc12 hn)
        refine xs_aload_n d35_45 rfl ?_
        refine xe_getc (j := 0) d35_46 ky35 fl138 fk5_12 rfl ?_
        refine xs_iload_n d35_49 rfl ?_
        refine xs_aload_n d35_50 rfl ?_
        refine xs_aload_n d35_51 rfl ?_
        refine xs_iload_n d35_52 rfl ?_
        refine xs_iload_n d35_53 rfl ?_
        obtain ⟨r13, hc14, hf⟩ := lk_b hf
        refine xe_callv1 (as := [xr 6 (some i1), xi v2, xi v3]) (st := [xi v2, xr 27 (some 0)]) (h2 := h) (d2 := d - 1) d35_54 ky35 ml122 st34 (by decide) cn34 rfl na34 (Nat.le_of_ble_eq_true rfl) (by omega) (f_Sets_leadsOn_ok (by omega) hc14) ?_
        obtain ⟨hin15, hf⟩ := lk_g hf
        obtain ⟨hz17, hf⟩ := lk_g hf
        obtain ⟨h16, eh16, hf⟩ := lk_let hf
        refine xe_zast d35_57 (by decide) ak27 hin15 hz17 eh16 ?_
        obtain ⟨v3_18, ev3_18, hf⟩ := lk_let hf
        refine xe_iinc (v := v3_18) (b := 1) (ls2 := [(0, xr 5 (some 0)), (1, xr 6 (some i1)), (2, xi v2), (3, xi v3_18)]) d35_58 mx35 (by decide) rfl (by decide) ev3_18 rfl ?_
        refine xs_goto (tgt := 21) d35_61 (by decide) ?_
        exact K2 _ _ (Option.some.inj hf).symm
      · refine xs_if_ne (tgt := 64) d35_42 (by decide) (fun hp => absurd hp hc12) (fun _ => ?_)
        refine xs_pick [0, 1, 2] rfl ?_
        obtain ⟨x0, hf, ex0⟩ := lk_up hf
        exact f_Sets_markGoodSets_b64_ok hD hf (fun u0 u1 e => K1 u0 u1 (ex0.trans (congrArg Sum.inr e))) (fun u0 e => K0 u0 (ex0.trans (congrArg Sum.inr e)))
noncomputable def f_Sets_markGoodSets_l21 (i1 : Nat) (v2 : Int32) (v3 : Int32) (h : xH) : Option ((Int32 × xH) ⊕ xH) :=
  whl (fun s => f_Sets_markGoodSets_s21 i1 v2 s.1 s.2) (v3, h)
theorem f_Sets_markGoodSets_l21_ok {g : xG} {l : Launch} {d : Nat} {i1 : Nat} {v2 : Int32} {v3 : Int32} {h : xH} {o : ((Int32 × xH) ⊕ xH)} {R : Option xV} {H' : xH} (hD : 2 ≤ d) (hf : f_Sets_markGoodSets_l21 i1 v2 v3 h = some o) (K1 : ∀ (w2 : Int32) (h1 : xH), o = Sum.inl (w2, h1) → xEv g l d 35 4 [(0, xr 5 (some 0)), (1, xr 6 (some i1)), (2, xi w2)] [] h1 R H') (K0 : ∀ (h1 : xH), o = Sum.inr (h1) → R = none ∧ H' = h1) : xEv g l d 35 21 [(0, xr 5 (some 0)), (1, xr 6 (some i1)), (2, xi v2), (3, xi v3)] [] h R H' := by
  obtain ⟨n, hn⟩ := whl_iff.mp hf
  clear hf
  induction n generalizing v3 h with
  | zero => cases hn
  | succ n ih =>
    obtain ⟨o2, hs, hn⟩ := lk_b (show (f_Sets_markGoodSets_s21 i1 v2 v3 h).bind (fun o => Sum.elim (itn _ n) some o) = some o from hn)
    exact f_Sets_markGoodSets_s21_ok hD hs (fun u0 u1 e => K1 u0 u1 (by rw [e] at hn; exact (Option.some.inj hn).symm)) (fun u0 u1 e => ih (by rw [e] at hn; exact hn)) (fun u0 e => K0 u0 (by rw [e] at hn; exact (Option.some.inj hn).symm))
noncomputable def f_Sets_markGoodSets_s4 (i1 : Nat) (v2 : Int32) (h : xH) : Option ((Int32 × xH) ⊕ xH) :=
  if v2 < (0 : Int32) then (
  some (Sum.inr (h))) else (
  (f_Sets_isBest v2 h).bind fun r2 =>
  if xib v2 256 then (
  if r2 = 0 ∨ r2 = 1 then (
  xlet (xsA h 27 0 (upd (h.2.2.2.1 27 0) (v2).toNatClampNeg r2)) fun h5 =>
  f_Sets_markGoodSets_l21 i1 v2 (0 : Int32) h5) else none) else none)
set_option maxHeartbeats 4000000 in
set_option maxRecDepth 100000 in
theorem f_Sets_markGoodSets_s4_ok {g : xG} {l : Launch} {d : Nat} {i1 : Nat} {v2 : Int32} {h : xH} {o : ((Int32 × xH) ⊕ xH)} {R : Option xV} {H' : xH} (hD : 2 ≤ d) (hf : f_Sets_markGoodSets_s4 i1 v2 h = some o) (K1 : ∀ (w2 : Int32) (h1 : xH), o = Sum.inl (w2, h1) → xEv g l d 35 4 [(0, xr 5 (some 0)), (1, xr 6 (some i1)), (2, xi w2)] [] h1 R H') (K0 : ∀ (h1 : xH), o = Sum.inr (h1) → R = none ∧ H' = h1) : xEv g l d 35 4 [(0, xr 5 (some 0)), (1, xr 6 (some i1)), (2, xi v2)] [] h R H' := by
  unfold f_Sets_markGoodSets_s4 at hf
  refine xs_iload_n d35_4 rfl ?_
  rcases lk_if hf with ⟨hc1, hf⟩ | ⟨hc1, hf⟩
  · refine xs_if_lt (tgt := 70) d35_5 (by decide) (fun _ => ?_) (fun hn => absurd hc1 hn)
    obtain ⟨eR, eH⟩ := K0 _ (Option.some.inj hf).symm
    subst eR; subst eH
    exact xs_vret d35_70 rt35
  · refine xs_if_lt (tgt := 70) d35_5 (by decide) (fun hp => absurd hp hc1) (fun _ => ?_)
    refine xs_aload_n d35_8 rfl ?_
    refine xe_getc (j := 0) d35_9 ky35 fl138 fk5_12 rfl ?_
    refine xs_iload_n d35_12 rfl ?_
    refine xs_aload_n d35_13 rfl ?_
    refine xs_iload_n d35_14 rfl ?_
    obtain ⟨r2, hc3, hf⟩ := lk_b hf
    refine xe_callv1 (as := [xi v2]) (st := [xi v2, xr 27 (some 0)]) (h2 := h) (d2 := d - 1) d35_15 ky35 ml121 st33 (by decide) cn33 rfl na33 (Nat.le_of_ble_eq_true rfl) (by omega) (f_Sets_isBest_ok (by omega) hc3) ?_
    obtain ⟨hin4, hf⟩ := lk_g hf
    obtain ⟨hz6, hf⟩ := lk_g hf
    obtain ⟨h5, eh5, hf⟩ := lk_let hf
    refine xe_zast d35_18 (by decide) ak27 hin4 hz6 eh5 ?_
    refine xs_iconst (v := 0) d35_19 (by decide) ?_
    refine xe_istore_n (v := (0 : Int32)) (ls2 := [(0, xr 5 (some 0)), (1, xr 6 (some i1)), (2, xi v2), (3, xi (0 : Int32))]) d35_20 mx35 (by decide) rfl rfl ?_
    exact f_Sets_markGoodSets_l21_ok hD hf K1 K0
noncomputable def f_Sets_markGoodSets_l4 (i1 : Nat) (v2 : Int32) (h : xH) : Option xH :=
  whl (fun s => f_Sets_markGoodSets_s4 i1 s.1 s.2) (v2, h)
theorem f_Sets_markGoodSets_l4_ok {g : xG} {l : Launch} {d : Nat} {i1 : Nat} {v2 : Int32} {h : xH} {o : xH} {R : Option xV} {H' : xH} (hD : 2 ≤ d) (hf : f_Sets_markGoodSets_l4 i1 v2 h = some o) (K0 : ∀ (h1 : xH), o = h1 → R = none ∧ H' = h1) : xEv g l d 35 4 [(0, xr 5 (some 0)), (1, xr 6 (some i1)), (2, xi v2)] [] h R H' := by
  obtain ⟨n, hn⟩ := whl_iff.mp hf
  clear hf
  induction n generalizing v2 h with
  | zero => cases hn
  | succ n ih =>
    obtain ⟨o2, hs, hn⟩ := lk_b (show (f_Sets_markGoodSets_s4 i1 v2 h).bind (fun o => Sum.elim (itn _ n) some o) = some o from hn)
    exact f_Sets_markGoodSets_s4_ok hD hs (fun u0 u1 e => ih (by rw [e] at hn; exact hn)) (fun u0 e => K0 u0 (by rw [e] at hn; exact (Option.some.inj hn).symm))
noncomputable def f_Sets_markGoodSets_e (i1 : Nat) (h : xH) : Option xH :=
  f_Sets_markGoodSets_l4 i1 (255 : Int32) h
set_option maxHeartbeats 4000000 in
set_option maxRecDepth 100000 in
theorem f_Sets_markGoodSets_e_ok {g : xG} {l : Launch} {d : Nat} {i1 : Nat} {h : xH} {o : xH} {R : Option xV} {H' : xH} (hD : 2 ≤ d) (hf : f_Sets_markGoodSets_e i1 h = some o) (K0 : ∀ (h1 : xH), o = h1 → R = none ∧ H' = h1) : xEv g l d 35 0 [(0, xr 5 (some 0)), (1, xr 6 (some i1))] [] h R H' := by
  unfold f_Sets_markGoodSets_e at hf
  refine xs_sipush (v := 255) d35_0 (by decide) ?_
  refine xe_istore_n (v := (255 : Int32)) (ls2 := [(0, xr 5 (some 0)), (1, xr 6 (some i1)), (2, xi (255 : Int32))]) d35_3 mx35 (by decide) rfl rfl ?_
  exact f_Sets_markGoodSets_l4_ok hD hf K0
noncomputable def f_Sets_markGoodSets (i1 : Nat) (h : xH) : Option xH := f_Sets_markGoodSets_e i1 h
theorem f_Sets_markGoodSets_ok {g : xG} {l : Launch} {d : Nat} {i1 : Nat} {h : xH} {h1 : xH} (hD : 2 ≤ d) (hf : f_Sets_markGoodSets i1 h = some h1) : xC g l d 35 [xr 5 (some 0), xr 6 (some i1)] h none h1 :=
  xC_of2 (by decide) mx35 (Nat.le_of_ble_eq_true rfl) (f_Sets_markGoodSets_e_ok hD hf (fun _ e => ⟨rfl, e⟩))
theorem d36_0 : decode (xcode 36) 0 = .ok (.iconst 0, 1) := by decide +kernel
theorem d36_1 : decode (xcode 36) 1 = .ok (.istore_n 2, 1) := by decide +kernel
theorem d36_2 : decode (xcode 36) 2 = .ok (.aload_n 0, 1) := by decide +kernel
theorem d36_3 : decode (xcode 36) 3 = .ok (.iconst 0, 1) := by decide +kernel
theorem d36_4 : decode (xcode 36) 4 = .ok (.putfield 102, 3) := by decide +kernel
theorem d36_7 : decode (xcode 36) 7 = .ok (.iconst 0, 1) := by decide +kernel
theorem d36_8 : decode (xcode 36) 8 = .ok (.istore_n 3, 1) := by decide +kernel
theorem d36_9 : decode (xcode 36) 9 = .ok (.iload_n 3, 1) := by decide +kernel
theorem d36_10 : decode (xcode 36) 10 = .ok (.bipush 8, 2) := by decide +kernel
theorem d36_12 : decode (xcode 36) 12 = .ok (.if_icmp .ge 85, 3) := by decide +kernel
theorem d36_15 : decode (xcode 36) 15 = .ok (.aload_n 0, 1) := by decide +kernel
theorem d36_16 : decode (xcode 36) 16 = .ok (.iload_n 2, 1) := by decide +kernel
theorem d36_17 : decode (xcode 36) 17 = .ok (.invokevirtual 95, 3) := by decide +kernel
theorem d36_20 : decode (xcode 36) 20 = .ok (.ifCond .ne 77, 3) := by decide +kernel
theorem d36_23 : decode (xcode 36) 23 = .ok (.iconst (-1), 1) := by decide +kernel
theorem d36_24 : decode (xcode 36) 24 = .ok (.istore 4, 2) := by decide +kernel
theorem d36_26 : decode (xcode 36) 26 = .ok (.bipush 7, 2) := by decide +kernel
theorem d36_28 : decode (xcode 36) 28 = .ok (.istore 5, 2) := by decide +kernel
theorem d36_30 : decode (xcode 36) 30 = .ok (.iload 5, 2) := by decide +kernel
theorem d36_32 : decode (xcode 36) 32 = .ok (.ifCond .lt 24, 3) := by decide +kernel
theorem d36_35 : decode (xcode 36) 35 = .ok (.aload_n 0, 1) := by decide +kernel
theorem d36_36 : decode (xcode 36) 36 = .ok (.aload_n 1, 1) := by decide +kernel
theorem d36_37 : decode (xcode 36) 37 = .ok (.iload_n 2, 1) := by decide +kernel
theorem d36_38 : decode (xcode 36) 38 = .ok (.iload 5, 2) := by decide +kernel
theorem d36_40 : decode (xcode 36) 40 = .ok (.invokevirtual 98, 3) := by decide +kernel
theorem d36_43 : decode (xcode 36) 43 = .ok (.ifCond .eq 7, 3) := by decide +kernel
theorem d36_46 : decode (xcode 36) 46 = .ok (.iload 5, 2) := by decide +kernel
theorem d36_48 : decode (xcode 36) 48 = .ok (.istore 4, 2) := by decide +kernel
theorem d36_50 : decode (xcode 36) 50 = .ok (.iinc 5 (-1), 3) := by decide +kernel
theorem d36_53 : decode (xcode 36) 53 = .ok (.goto (-23), 3) := by decide +kernel
theorem d36_56 : decode (xcode 36) 56 = .ok (.iload 4, 2) := by decide +kernel
theorem d36_58 : decode (xcode 36) 58 = .ok (.iconst (-1), 1) := by decide +kernel
theorem d36_59 : decode (xcode 36) 59 = .ok (.if_icmp .ne 4, 3) := by decide +kernel
theorem d36_62 : decode (xcode 36) 62 = .ok (.return_, 1) := by decide +kernel
theorem d36_63 : decode (xcode 36) 63 = .ok (.aload_n 0, 1) := by decide +kernel
theorem d36_64 : decode (xcode 36) 64 = .ok (.getfield 9, 3) := by decide +kernel
theorem d36_67 : decode (xcode 36) 67 = .ok (.aload_n 0, 1) := by decide +kernel
theorem d36_68 : decode (xcode 36) 68 = .ok (.getfield 102, 3) := by decide +kernel
theorem d36_71 : decode (xcode 36) 71 = .ok (.iload 4, 2) := by decide +kernel
theorem d36_73 : decode (xcode 36) 73 = .ok (.iastore, 1) := by decide +kernel
theorem d36_74 : decode (xcode 36) 74 = .ok (.aload_n 0, 1) := by decide +kernel
theorem d36_75 : decode (xcode 36) 75 = .ok (.dup, 1) := by decide +kernel
theorem d36_76 : decode (xcode 36) 76 = .ok (.getfield 102, 3) := by decide +kernel
theorem d36_79 : decode (xcode 36) 79 = .ok (.iconst 1, 1) := by decide +kernel
theorem d36_80 : decode (xcode 36) 80 = .ok (.iadd, 1) := by decide +kernel
theorem d36_81 : decode (xcode 36) 81 = .ok (.putfield 102, 3) := by decide +kernel
theorem d36_84 : decode (xcode 36) 84 = .ok (.iload_n 2, 1) := by decide +kernel
theorem d36_85 : decode (xcode 36) 85 = .ok (.iconst 1, 1) := by decide +kernel
theorem d36_86 : decode (xcode 36) 86 = .ok (.iload 4, 2) := by decide +kernel
theorem d36_88 : decode (xcode 36) 88 = .ok (.ishl, 1) := by decide +kernel
theorem d36_89 : decode (xcode 36) 89 = .ok (.ior, 1) := by decide +kernel
theorem d36_90 : decode (xcode 36) 90 = .ok (.istore_n 2, 1) := by decide +kernel
theorem d36_91 : decode (xcode 36) 91 = .ok (.iinc 3 1, 3) := by decide +kernel
theorem d36_94 : decode (xcode 36) 94 = .ok (.goto (-85), 3) := by decide +kernel
theorem d36_97 : decode (xcode 36) 97 = .ok (.return_, 1) := by decide +kernel
noncomputable def f_Sets_layOutRow_b56 (i1 : Nat) (v2 : Int32) (v3 : Int32) (v4 : Int32) (h : xH) : Option ((Int32 × Int32 × xH) ⊕ xH) :=
  if v4 = (-1 : Int32) then (
  some (Sum.inr (h))) else (
  if xib (h.1 5 1 0) 8 then (
  xlet (xsA h 22 0 (upd (h.2.2.2.1 22 0) (h.1 5 1 0).toNatClampNeg v4)) fun h9 =>
  xlet (xsI h9 5 1 0 ((h9.1 5 1 0) + (1 : Int32))) fun h10 =>
  xlet (v2 ||| ((1 : Int32) <<< (v4 &&& 31))) fun v2_11 =>
  xlet (v3 + (1 : Int32)) fun v3_12 =>
  some (Sum.inl (v2_11, v3_12, h10))) else none)
set_option maxHeartbeats 4000000 in
set_option maxRecDepth 100000 in
theorem f_Sets_layOutRow_b56_ok {g : xG} {l : Launch} {d : Nat} {i1 : Nat} {v2 : Int32} {v3 : Int32} {v4 : Int32} {h : xH} {o : ((Int32 × Int32 × xH) ⊕ xH)} {R : Option xV} {H' : xH} (hD : 2 ≤ d) (hf : f_Sets_layOutRow_b56 i1 v2 v3 v4 h = some o) (K1 : ∀ (w2 : Int32) (w3 : Int32) (h1 : xH), o = Sum.inl (w2, w3, h1) → xEv g l d 36 9 [(0, xr 5 (some 0)), (1, xr 6 (some i1)), (2, xi w2), (3, xi w3)] [] h1 R H') (K0 : ∀ (h1 : xH), o = Sum.inr (h1) → R = none ∧ H' = h1) : xEv g l d 36 56 [(0, xr 5 (some 0)), (1, xr 6 (some i1)), (2, xi v2), (3, xi v3), (4, xi v4)] [] h R H' := by
  unfold f_Sets_layOutRow_b56 at hf
  refine xs_iload d36_56 rfl ?_
  refine xs_iconst (v := -1) d36_58 (by decide) ?_
  rcases lk_if hf with ⟨hc7, hf⟩ | ⟨hc7, hf⟩
  · refine xs_icmp_ne (tgt := 63) d36_59 (by decide) (fun _ => ?_) (fun hn => absurd hc7 hn)
    obtain ⟨eR, eH⟩ := K0 _ (Option.some.inj hf).symm
    subst eR; subst eH
    exact xs_vret d36_62 rt36
  · refine xs_icmp_ne (tgt := 63) d36_59 (by decide) (fun hp => absurd hp hc7) (fun _ => ?_)
    refine xs_aload_n d36_63 rfl ?_
    refine xe_getc (j := 0) d36_64 ky36 fl118 fk5_0 rfl ?_
    refine xs_aload_n d36_67 rfl ?_
    refine xe_geti d36_68 ky36 fl120 fk5_1 ?_
    refine xs_iload d36_71 rfl ?_
    obtain ⟨hin8, hf⟩ := lk_g hf
    obtain ⟨h9, eh9, hf⟩ := lk_let hf
    refine xe_iast d36_73 (by decide) ak22 hin8  eh9 ?_
    refine xs_aload_n d36_74 rfl ?_
    refine xs_dup d36_75 rfl ?_
    refine xe_geti d36_76 ky36 fl120 fk5_1 ?_
    refine xs_iconst (v := 1) d36_79 (by decide) ?_
    refine xs_iadd d36_80 ?_
    obtain ⟨h10, eh10, hf⟩ := lk_let hf
    refine xe_puti d36_81 ky36 fl120 fk5_1 ft5_1 eh10 ?_
    refine xs_iload_n d36_84 rfl ?_
    refine xs_iconst (v := 1) d36_85 (by decide) ?_
    refine xs_iload d36_86 rfl ?_
    refine xs_ishl d36_88 ?_
    refine xs_ior d36_89 ?_
    obtain ⟨v2_11, ev2_11, hf⟩ := lk_let hf
    refine xe_istore_n (v := v2_11) (ls2 := [(0, xr 5 (some 0)), (1, xr 6 (some i1)), (2, xi v2_11), (3, xi v3), (4, xi v4)]) d36_90 mx36 (by decide) ev2_11 rfl ?_
    obtain ⟨v3_12, ev3_12, hf⟩ := lk_let hf
    refine xe_iinc (v := v3_12) (b := 1) (ls2 := [(0, xr 5 (some 0)), (1, xr 6 (some i1)), (2, xi v2_11), (3, xi v3_12), (4, xi v4)]) d36_91 mx36 (by decide) rfl (by decide) ev3_12 rfl ?_
    refine xs_goto (tgt := 9) d36_94 (by decide) ?_
    refine xs_pick [0, 1, 2, 3] rfl ?_
    exact K1 _ _ _ (Option.some.inj hf).symm
noncomputable def f_Sets_layOutRow_b50 (i1 : Nat) (v2 : Int32) (v3 : Int32) (v4 : Int32) (v5 : Int32) (h : xH) : Option ((Int32 × Int32) ⊕ ((Int32 × Int32 × xH) ⊕ xH)) :=
  xlet (v5 + (-1 : Int32)) fun v5_16 =>
  some (Sum.inl (v4, v5_16))
set_option maxHeartbeats 4000000 in
set_option maxRecDepth 100000 in
theorem f_Sets_layOutRow_b50_ok {g : xG} {l : Launch} {d : Nat} {i1 : Nat} {v2 : Int32} {v3 : Int32} {v4 : Int32} {v5 : Int32} {h : xH} {o : ((Int32 × Int32) ⊕ ((Int32 × Int32 × xH) ⊕ xH))} {R : Option xV} {H' : xH} (hD : 2 ≤ d) (hf : f_Sets_layOutRow_b50 i1 v2 v3 v4 v5 h = some o) (K1 : ∀ (w2 : Int32) (w3 : Int32) (h1 : xH), o = Sum.inr (Sum.inl (w2, w3, h1)) → xEv g l d 36 9 [(0, xr 5 (some 0)), (1, xr 6 (some i1)), (2, xi w2), (3, xi w3)] [] h1 R H') (K2 : ∀ (w4 : Int32) (w5 : Int32), o = Sum.inl (w4, w5) → xEv g l d 36 30 [(0, xr 5 (some 0)), (1, xr 6 (some i1)), (2, xi v2), (3, xi v3), (4, xi w4), (5, xi w5)] [] h R H') (K0 : ∀ (h1 : xH), o = Sum.inr (Sum.inr (h1)) → R = none ∧ H' = h1) : xEv g l d 36 50 [(0, xr 5 (some 0)), (1, xr 6 (some i1)), (2, xi v2), (3, xi v3), (4, xi v4), (5, xi v5)] [] h R H' := by
  unfold f_Sets_layOutRow_b50 at hf
  obtain ⟨v5_16, ev5_16, hf⟩ := lk_let hf
  refine xe_iinc (v := v5_16) (b := -1) (ls2 := [(0, xr 5 (some 0)), (1, xr 6 (some i1)), (2, xi v2), (3, xi v3), (4, xi v4), (5, xi v5_16)]) d36_50 mx36 (by decide) rfl (by decide) ev5_16 rfl ?_
  refine xs_goto (tgt := 30) d36_53 (by decide) ?_
  exact K2 _ _ (Option.some.inj hf).symm
noncomputable def f_Sets_layOutRow_s30 (i1 : Nat) (v2 : Int32) (v3 : Int32) (v4 : Int32) (v5 : Int32) (h : xH) : Option ((Int32 × Int32) ⊕ ((Int32 × Int32 × xH) ⊕ xH)) :=
  if v5 < (0 : Int32) then (
  xup (f_Sets_layOutRow_b56 i1 v2 v3 v4 h)) else (
  (f_Sets_leadsOn i1 v2 v5 h).bind fun r13 =>
  if r13 = (0 : Int32) then (
  f_Sets_layOutRow_b50 i1 v2 v3 v4 v5 h) else (
  f_Sets_layOutRow_b50 i1 v2 v3 v5 v5 h))
set_option maxHeartbeats 4000000 in
set_option maxRecDepth 100000 in
theorem f_Sets_layOutRow_s30_ok {g : xG} {l : Launch} {d : Nat} {i1 : Nat} {v2 : Int32} {v3 : Int32} {v4 : Int32} {v5 : Int32} {h : xH} {o : ((Int32 × Int32) ⊕ ((Int32 × Int32 × xH) ⊕ xH))} {R : Option xV} {H' : xH} (hD : 2 ≤ d) (hf : f_Sets_layOutRow_s30 i1 v2 v3 v4 v5 h = some o) (K1 : ∀ (w2 : Int32) (w3 : Int32) (h1 : xH), o = Sum.inr (Sum.inl (w2, w3, h1)) → xEv g l d 36 9 [(0, xr 5 (some 0)), (1, xr 6 (some i1)), (2, xi w2), (3, xi w3)] [] h1 R H') (K2 : ∀ (w4 : Int32) (w5 : Int32), o = Sum.inl (w4, w5) → xEv g l d 36 30 [(0, xr 5 (some 0)), (1, xr 6 (some i1)), (2, xi v2), (3, xi v3), (4, xi w4), (5, xi w5)] [] h R H') (K0 : ∀ (h1 : xH), o = Sum.inr (Sum.inr (h1)) → R = none ∧ H' = h1) : xEv g l d 36 30 [(0, xr 5 (some 0)), (1, xr 6 (some i1)), (2, xi v2), (3, xi v3), (4, xi v4), (5, xi v5)] [] h R H' := by
  unfold f_Sets_layOutRow_s30 at hf
  refine xs_iload d36_30 rfl ?_
  rcases lk_if hf with ⟨hc6, hf⟩ | ⟨hc6, hf⟩
  · refine xs_if_lt (tgt := 56) d36_32 (by decide) (fun _ => ?_) (fun hn => absurd hc6 hn)
    refine xs_pick [0, 1, 2, 3, 4] rfl ?_
    obtain ⟨x0, hf, ex0⟩ := lk_up hf
    exact f_Sets_layOutRow_b56_ok hD hf (fun u0 u1 u2 e => K1 u0 u1 u2 (ex0.trans (congrArg Sum.inr e))) (fun u0 e => K0 u0 (ex0.trans (congrArg Sum.inr e)))
  · refine xs_if_lt (tgt := 56) d36_32 (by decide) (fun hp => absurd hp hc6) (fun _ => ?_)
    refine xs_aload_n d36_35 rfl ?_
    refine xs_aload_n d36_36 rfl ?_
    refine xs_iload_n d36_37 rfl ?_
    refine xs_iload d36_38 rfl ?_
    obtain ⟨r13, hc14, hf⟩ := lk_b hf
    refine xe_callv1 (as := [xr 6 (some i1), xi v2, xi v5]) (st := []) (h2 := h) (d2 := d - 1) d36_40 ky36 ml122 st34 (by decide) cn34 rfl na34 (Nat.le_of_ble_eq_true rfl) (by omega) (f_Sets_leadsOn_ok (by omega) hc14) ?_
    rcases lk_if hf with ⟨hc15, hf⟩ | ⟨hc15, hf⟩
    · refine xs_if_eq (tgt := 50) d36_43 (by decide) (fun _ => ?_) (fun hn => absurd hc15 hn)
      exact f_Sets_layOutRow_b50_ok hD hf K1 K2 K0
    · refine xs_if_eq (tgt := 50) d36_43 (by decide) (fun hp => absurd hp hc15) (fun _ => ?_)
      refine xs_iload d36_46 rfl ?_
      refine xe_istore (v := v5) (ls2 := [(0, xr 5 (some 0)), (1, xr 6 (some i1)), (2, xi v2), (3, xi v3), (4, xi v5), (5, xi v5)]) d36_48 mx36 (by decide) rfl rfl ?_
      exact f_Sets_layOutRow_b50_ok hD hf K1 K2 K0
noncomputable def f_Sets_layOutRow_l30 (i1 : Nat) (v2 : Int32) (v3 : Int32) (v4 : Int32) (v5 : Int32) (h : xH) : Option ((Int32 × Int32 × xH) ⊕ xH) :=
  whl (fun s => f_Sets_layOutRow_s30 i1 v2 v3 s.1 s.2 h) (v4, v5)
theorem f_Sets_layOutRow_l30_ok {g : xG} {l : Launch} {d : Nat} {i1 : Nat} {v2 : Int32} {v3 : Int32} {v4 : Int32} {v5 : Int32} {h : xH} {o : ((Int32 × Int32 × xH) ⊕ xH)} {R : Option xV} {H' : xH} (hD : 2 ≤ d) (hf : f_Sets_layOutRow_l30 i1 v2 v3 v4 v5 h = some o) (K1 : ∀ (w2 : Int32) (w3 : Int32) (h1 : xH), o = Sum.inl (w2, w3, h1) → xEv g l d 36 9 [(0, xr 5 (some 0)), (1, xr 6 (some i1)), (2, xi w2), (3, xi w3)] [] h1 R H') (K0 : ∀ (h1 : xH), o = Sum.inr (h1) → R = none ∧ H' = h1) : xEv g l d 36 30 [(0, xr 5 (some 0)), (1, xr 6 (some i1)), (2, xi v2), (3, xi v3), (4, xi v4), (5, xi v5)] [] h R H' := by
  obtain ⟨n, hn⟩ := whl_iff.mp hf
  clear hf
  induction n generalizing v4 v5 with
  | zero => cases hn
  | succ n ih =>
    obtain ⟨o2, hs, hn⟩ := lk_b (show (f_Sets_layOutRow_s30 i1 v2 v3 v4 v5 h).bind (fun o => Sum.elim (itn _ n) some o) = some o from hn)
    exact f_Sets_layOutRow_s30_ok hD hs (fun u0 u1 u2 e => K1 u0 u1 u2 (by rw [e] at hn; exact (Option.some.inj hn).symm)) (fun u0 u1 e => ih (by rw [e] at hn; exact hn)) (fun u0 e => K0 u0 (by rw [e] at hn; exact (Option.some.inj hn).symm))
noncomputable def f_Sets_layOutRow_s9 (i1 : Nat) (v2 : Int32) (v3 : Int32) (h : xH) : Option ((Int32 × Int32 × xH) ⊕ xH) :=
  if (8 : Int32) ≤ v3 then (
  some (Sum.inr (h))) else (
  (f_Sets_isBest v2 h).bind fun r3 =>
  if r3 = (0 : Int32) then (
  f_Sets_layOutRow_l30 i1 v2 v3 (-1 : Int32) (7 : Int32) h) else (
  some (Sum.inr (h))))
set_option maxHeartbeats 4000000 in
set_option maxRecDepth 100000 in
theorem f_Sets_layOutRow_s9_ok {g : xG} {l : Launch} {d : Nat} {i1 : Nat} {v2 : Int32} {v3 : Int32} {h : xH} {o : ((Int32 × Int32 × xH) ⊕ xH)} {R : Option xV} {H' : xH} (hD : 2 ≤ d) (hf : f_Sets_layOutRow_s9 i1 v2 v3 h = some o) (K1 : ∀ (w2 : Int32) (w3 : Int32) (h1 : xH), o = Sum.inl (w2, w3, h1) → xEv g l d 36 9 [(0, xr 5 (some 0)), (1, xr 6 (some i1)), (2, xi w2), (3, xi w3)] [] h1 R H') (K0 : ∀ (h1 : xH), o = Sum.inr (h1) → R = none ∧ H' = h1) : xEv g l d 36 9 [(0, xr 5 (some 0)), (1, xr 6 (some i1)), (2, xi v2), (3, xi v3)] [] h R H' := by
  unfold f_Sets_layOutRow_s9 at hf
  refine xs_iload_n d36_9 rfl ?_
  refine xs_bipush (v := 8) d36_10 (by decide) ?_
  rcases lk_if hf with ⟨hc2, hf⟩ | ⟨hc2, hf⟩
  · refine xs_icmp_ge (tgt := 97) d36_12 (by decide) (fun _ => ?_) (fun hn => absurd hc2 hn)
    obtain ⟨eR, eH⟩ := K0 _ (Option.some.inj hf).symm
    subst eR; subst eH
    exact xs_vret d36_97 rt36
  · refine xs_icmp_ge (tgt := 97) d36_12 (by decide) (fun hp => absurd hp hc2) (fun _ => ?_)
    refine xs_aload_n d36_15 rfl ?_
    refine xs_iload_n d36_16 rfl ?_
    obtain ⟨r3, hc4, hf⟩ := lk_b hf
    refine xe_callv1 (as := [xi v2]) (st := []) (h2 := h) (d2 := d - 1) d36_17 ky36 ml121 st33 (by decide) cn33 rfl na33 (Nat.le_of_ble_eq_true rfl) (by omega) (f_Sets_isBest_ok (by omega) hc4) ?_
    rcases lk_if hf with ⟨hc5, hf⟩ | ⟨hc5, hf⟩
    · refine xs_if_ne (tgt := 97) d36_20 (by decide) (fun _ => ?_) (fun hn => absurd hc5 hn)
      refine xs_iconst (v := -1) d36_23 (by decide) ?_
      refine xe_istore (v := (-1 : Int32)) (ls2 := [(0, xr 5 (some 0)), (1, xr 6 (some i1)), (2, xi v2), (3, xi v3), (4, xi (-1 : Int32))]) d36_24 mx36 (by decide) rfl rfl ?_
      refine xs_bipush (v := 7) d36_26 (by decide) ?_
      refine xe_istore (v := (7 : Int32)) (ls2 := [(0, xr 5 (some 0)), (1, xr 6 (some i1)), (2, xi v2), (3, xi v3), (4, xi (-1 : Int32)), (5, xi (7 : Int32))]) d36_28 mx36 (by decide) rfl rfl ?_
      exact f_Sets_layOutRow_l30_ok hD hf K1 K0
    · refine xs_if_ne (tgt := 97) d36_20 (by decide) (fun hp => absurd hp hc5) (fun _ => ?_)
      obtain ⟨eR, eH⟩ := K0 _ (Option.some.inj hf).symm
      subst eR; subst eH
      exact xs_vret d36_97 rt36
noncomputable def f_Sets_layOutRow_l9 (i1 : Nat) (v2 : Int32) (v3 : Int32) (h : xH) : Option xH :=
  whl (fun s => f_Sets_layOutRow_s9 i1 s.1 s.2.1 s.2.2) (v2, v3, h)
theorem f_Sets_layOutRow_l9_ok {g : xG} {l : Launch} {d : Nat} {i1 : Nat} {v2 : Int32} {v3 : Int32} {h : xH} {o : xH} {R : Option xV} {H' : xH} (hD : 2 ≤ d) (hf : f_Sets_layOutRow_l9 i1 v2 v3 h = some o) (K0 : ∀ (h1 : xH), o = h1 → R = none ∧ H' = h1) : xEv g l d 36 9 [(0, xr 5 (some 0)), (1, xr 6 (some i1)), (2, xi v2), (3, xi v3)] [] h R H' := by
  obtain ⟨n, hn⟩ := whl_iff.mp hf
  clear hf
  induction n generalizing v2 v3 h with
  | zero => cases hn
  | succ n ih =>
    obtain ⟨o2, hs, hn⟩ := lk_b (show (f_Sets_layOutRow_s9 i1 v2 v3 h).bind (fun o => Sum.elim (itn _ n) some o) = some o from hn)
    exact f_Sets_layOutRow_s9_ok hD hs (fun u0 u1 u2 e => ih (by rw [e] at hn; exact hn)) (fun u0 e => K0 u0 (by rw [e] at hn; exact (Option.some.inj hn).symm))
noncomputable def f_Sets_layOutRow_e (i1 : Nat) (h : xH) : Option xH :=
  xlet (xsI h 5 1 0 (0 : Int32)) fun h1 =>
  f_Sets_layOutRow_l9 i1 (0 : Int32) (0 : Int32) h1
set_option maxHeartbeats 4000000 in
set_option maxRecDepth 100000 in
theorem f_Sets_layOutRow_e_ok {g : xG} {l : Launch} {d : Nat} {i1 : Nat} {h : xH} {o : xH} {R : Option xV} {H' : xH} (hD : 2 ≤ d) (hf : f_Sets_layOutRow_e i1 h = some o) (K0 : ∀ (h1 : xH), o = h1 → R = none ∧ H' = h1) : xEv g l d 36 0 [(0, xr 5 (some 0)), (1, xr 6 (some i1))] [] h R H' := by
  unfold f_Sets_layOutRow_e at hf
  refine xs_iconst (v := 0) d36_0 (by decide) ?_
  refine xe_istore_n (v := (0 : Int32)) (ls2 := [(0, xr 5 (some 0)), (1, xr 6 (some i1)), (2, xi (0 : Int32))]) d36_1 mx36 (by decide) rfl rfl ?_
  refine xs_aload_n d36_2 rfl ?_
  refine xs_iconst (v := 0) d36_3 (by decide) ?_
  obtain ⟨h1, eh1, hf⟩ := lk_let hf
  refine xe_puti d36_4 ky36 fl120 fk5_1 ft5_1 eh1 ?_
  refine xs_iconst (v := 0) d36_7 (by decide) ?_
  refine xe_istore_n (v := (0 : Int32)) (ls2 := [(0, xr 5 (some 0)), (1, xr 6 (some i1)), (2, xi (0 : Int32)), (3, xi (0 : Int32))]) d36_8 mx36 (by decide) rfl rfl ?_
  exact f_Sets_layOutRow_l9_ok hD hf K0
noncomputable def f_Sets_layOutRow (i1 : Nat) (h : xH) : Option xH := f_Sets_layOutRow_e i1 h
theorem f_Sets_layOutRow_ok {g : xG} {l : Launch} {d : Nat} {i1 : Nat} {h : xH} {h1 : xH} (hD : 2 ≤ d) (hf : f_Sets_layOutRow i1 h = some h1) : xC g l d 36 [xr 5 (some 0), xr 6 (some i1)] h none h1 :=
  xC_of2 (by decide) mx36 (Nat.le_of_ble_eq_true rfl) (f_Sets_layOutRow_e_ok hD hf (fun _ e => ⟨rfl, e⟩))
theorem d30_0 : decode (xcode 30) 0 = .ok (.aload_n 1, 1) := by decide +kernel
theorem d30_1 : decode (xcode 30) 1 = .ok (.getfield 40, 3) := by decide +kernel
theorem d30_4 : decode (xcode 30) 4 = .ok (.aload_n 0, 1) := by decide +kernel
theorem d30_5 : decode (xcode 30) 5 = .ok (.getfield 15, 3) := by decide +kernel
theorem d30_8 : decode (xcode 30) 8 = .ok (.invokestatic 45, 3) := by decide +kernel
theorem d30_11 : decode (xcode 30) 11 = .ok (.aload_n 2, 1) := by decide +kernel
theorem d30_12 : decode (xcode 30) 12 = .ok (.getfield 49, 3) := by decide +kernel
theorem d30_15 : decode (xcode 30) 15 = .ok (.aload_n 0, 1) := by decide +kernel
theorem d30_16 : decode (xcode 30) 16 = .ok (.getfield 18, 3) := by decide +kernel
theorem d30_19 : decode (xcode 30) 19 = .ok (.invokestatic 45, 3) := by decide +kernel
theorem d30_22 : decode (xcode 30) 22 = .ok (.aload_n 0, 1) := by decide +kernel
theorem d30_23 : decode (xcode 30) 23 = .ok (.aload_n 1, 1) := by decide +kernel
theorem d30_24 : decode (xcode 30) 24 = .ok (.aload_n 2, 1) := by decide +kernel
theorem d30_25 : decode (xcode 30) 25 = .ok (.invokevirtual 54, 3) := by decide +kernel
theorem d30_28 : decode (xcode 30) 28 = .ok (.aload_n 0, 1) := by decide +kernel
theorem d30_29 : decode (xcode 30) 29 = .ok (.invokevirtual 58, 3) := by decide +kernel
theorem d30_32 : decode (xcode 30) 32 = .ok (.aload_n 0, 1) := by decide +kernel
theorem d30_33 : decode (xcode 30) 33 = .ok (.aload_n 2, 1) := by decide +kernel
theorem d30_34 : decode (xcode 30) 34 = .ok (.invokevirtual 61, 3) := by decide +kernel
theorem d30_37 : decode (xcode 30) 37 = .ok (.aload_n 0, 1) := by decide +kernel
theorem d30_38 : decode (xcode 30) 38 = .ok (.aload_n 2, 1) := by decide +kernel
theorem d30_39 : decode (xcode 30) 39 = .ok (.invokevirtual 65, 3) := by decide +kernel
theorem d30_42 : decode (xcode 30) 42 = .ok (.return_, 1) := by decide +kernel
noncomputable def f_Sets_findRow_e (i1 : Nat) (i2 : Nat) (h : xH) : Option xH :=
  (f_Sets_addUp_39_23 i1 h).bind fun h3 =>
  (f_Sets_addUp_32_24 i2 h3).bind fun h6 =>
  (f_Sets_findOpenSets i1 i2 h6).bind fun h9 =>
  (f_Sets_findBestSums h9).bind fun h12 =>
  (f_Sets_markGoodSets i2 h12).bind fun h15 =>
  (f_Sets_layOutRow i2 h15).bind fun h18 =>
  some (h18)
set_option maxHeartbeats 4000000 in
set_option maxRecDepth 100000 in
theorem f_Sets_findRow_e_ok {g : xG} {l : Launch} {d : Nat} {i1 : Nat} {i2 : Nat} {h : xH} {o : xH} {R : Option xV} {H' : xH} (hD : 3 ≤ d) (hf : f_Sets_findRow_e i1 i2 h = some o) (K0 : ∀ (h1 : xH), o = h1 → R = none ∧ H' = h1) : xEv g l d 30 0 [(0, xr 5 (some 0)), (1, xr 8 (some i1)), (2, xr 6 (some i2))] [] h R H' := by
  unfold f_Sets_findRow_e at hf
  refine xs_aload_n d30_0 rfl ?_
  refine xe_getc (j := i1) d30_1 ky30 fl44 fk8_7 (by omega) ?_
  refine xs_aload_n d30_4 rfl ?_
  refine xe_getc (j := 0) d30_5 ky30 fl134 fk5_8 rfl ?_
  obtain ⟨h3, hc2, hf⟩ := lk_b hf
  refine xe_calls0 (as := [xr 39 (some i1), xr 23 (some 0)]) (st := []) (h2 := h3) (d2 := d - 1) d30_8 ky30 ml115 st29 rfl na29 (Nat.le_of_ble_eq_true rfl) (by omega) (f_Sets_addUp_39_23_ok (by omega) hc2) ?_
  refine xs_aload_n d30_11 rfl ?_
  refine xe_getc (j := i2) d30_12 ky30 fl92 fk6_7 (by omega) ?_
  refine xs_aload_n d30_15 rfl ?_
  refine xe_getc (j := 0) d30_16 ky30 fl135 fk5_9 rfl ?_
  obtain ⟨h6, hc5, hf⟩ := lk_b hf
  refine xe_calls0 (as := [xr 32 (some i2), xr 24 (some 0)]) (st := []) (h2 := h6) (d2 := d - 1) d30_19 ky30 ml115 st29 rfl na29 (Nat.le_of_ble_eq_true rfl) (by omega) (f_Sets_addUp_32_24_ok (by omega) hc5) ?_
  refine xs_aload_n d30_22 rfl ?_
  refine xs_aload_n d30_23 rfl ?_
  refine xs_aload_n d30_24 rfl ?_
  obtain ⟨h9, hc8, hf⟩ := lk_b hf
  refine xe_callv0 (as := [xr 8 (some i1), xr 6 (some i2)]) (st := []) (h2 := h9) (d2 := d - 1) d30_25 ky30 ml117 st31 (by decide) cn31 rfl na31 (Nat.le_of_ble_eq_true rfl) (by omega) (f_Sets_findOpenSets_ok (by omega) hc8) ?_
  refine xs_aload_n d30_28 rfl ?_
  obtain ⟨h12, hc11, hf⟩ := lk_b hf
  refine xe_callv0 (as := []) (st := []) (h2 := h12) (d2 := d - 1) d30_29 ky30 ml119 st32 (by decide) cn32 rfl na32 (Nat.le_of_ble_eq_true rfl) (by omega) (f_Sets_findBestSums_ok (by omega) hc11) ?_
  refine xs_aload_n d30_32 rfl ?_
  refine xs_aload_n d30_33 rfl ?_
  obtain ⟨h15, hc14, hf⟩ := lk_b hf
  refine xe_callv0 (as := [xr 6 (some i2)]) (st := []) (h2 := h15) (d2 := d - 1) d30_34 ky30 ml120 st35 (by decide) cn35 rfl na35 (Nat.le_of_ble_eq_true rfl) (by omega) (f_Sets_markGoodSets_ok (by omega) hc14) ?_
  refine xs_aload_n d30_37 rfl ?_
  refine xs_aload_n d30_38 rfl ?_
  obtain ⟨h18, hc17, hf⟩ := lk_b hf
  refine xe_callv0 (as := [xr 6 (some i2)]) (st := []) (h2 := h18) (d2 := d - 1) d30_39 ky30 ml124 st36 (by decide) cn36 rfl na36 (Nat.le_of_ble_eq_true rfl) (by omega) (f_Sets_layOutRow_ok (by omega) hc17) ?_
  obtain ⟨eR, eH⟩ := K0 _ (Option.some.inj hf).symm
  subst eR; subst eH
  exact xs_vret d30_42 rt30
noncomputable def f_Sets_findRow (i1 : Nat) (i2 : Nat) (h : xH) : Option xH := f_Sets_findRow_e i1 i2 h
theorem f_Sets_findRow_ok {g : xG} {l : Launch} {d : Nat} {i1 : Nat} {i2 : Nat} {h : xH} {h1 : xH} (hD : 3 ≤ d) (hf : f_Sets_findRow i1 i2 h = some h1) : xC g l d 30 [xr 5 (some 0), xr 8 (some i1), xr 6 (some i2)] h none h1 :=
  xC_of2 (by decide) mx30 (Nat.le_of_ble_eq_true rfl) (f_Sets_findRow_e_ok hD hf (fun _ e => ⟨rfl, e⟩))
theorem d40_0 : decode (xcode 40) 0 = .ok (.iconst 0, 1) := by decide +kernel
theorem d40_1 : decode (xcode 40) 1 = .ok (.istore_n 2, 1) := by decide +kernel
theorem d40_2 : decode (xcode 40) 2 = .ok (.iconst 0, 1) := by decide +kernel
theorem d40_3 : decode (xcode 40) 3 = .ok (.istore_n 3, 1) := by decide +kernel
theorem d40_4 : decode (xcode 40) 4 = .ok (.iload_n 3, 1) := by decide +kernel
theorem d40_5 : decode (xcode 40) 5 = .ok (.bipush 8, 2) := by decide +kernel
theorem d40_7 : decode (xcode 40) 7 = .ok (.if_icmp .ge 28, 3) := by decide +kernel
theorem d40_10 : decode (xcode 40) 10 = .ok (.aload_n 1, 1) := by decide +kernel
theorem d40_11 : decode (xcode 40) 11 = .ok (.getfield 82, 3) := by decide +kernel
theorem d40_14 : decode (xcode 40) 14 = .ok (.iload_n 3, 1) := by decide +kernel
theorem d40_15 : decode (xcode 40) 15 = .ok (.iaload, 1) := by decide +kernel
theorem d40_16 : decode (xcode 40) 16 = .ok (.iload_n 0, 1) := by decide +kernel
theorem d40_17 : decode (xcode 40) 17 = .ok (.invokestatic 78, 3) := by decide +kernel
theorem d40_20 : decode (xcode 40) 20 = .ok (.ifCond .eq 9, 3) := by decide +kernel
theorem d40_23 : decode (xcode 40) 23 = .ok (.iload_n 2, 1) := by decide +kernel
theorem d40_24 : decode (xcode 40) 24 = .ok (.iconst 1, 1) := by decide +kernel
theorem d40_25 : decode (xcode 40) 25 = .ok (.iload_n 3, 1) := by decide +kernel
theorem d40_26 : decode (xcode 40) 26 = .ok (.ishl, 1) := by decide +kernel
theorem d40_27 : decode (xcode 40) 27 = .ok (.ior, 1) := by decide +kernel
theorem d40_28 : decode (xcode 40) 28 = .ok (.istore_n 2, 1) := by decide +kernel
theorem d40_29 : decode (xcode 40) 29 = .ok (.iinc 3 1, 3) := by decide +kernel
theorem d40_32 : decode (xcode 40) 32 = .ok (.goto (-28), 3) := by decide +kernel
theorem d40_35 : decode (xcode 40) 35 = .ok (.iload_n 2, 1) := by decide +kernel
theorem d40_36 : decode (xcode 40) 36 = .ok (.ireturn, 1) := by decide +kernel
noncomputable def f_Sets_lyingUnder_b29 (i1 : Nat) (v0 : Int32) (v2 : Int32) (v3 : Int32) (h : xH) : Option ((Int32 × Int32) ⊕ Int32) :=
  xlet (v3 + (1 : Int32)) fun v3_6 =>
  some (Sum.inl (v2, v3_6))
set_option maxHeartbeats 4000000 in
set_option maxRecDepth 100000 in
theorem f_Sets_lyingUnder_b29_ok {g : xG} {l : Launch} {d : Nat} {i1 : Nat} {v0 : Int32} {v2 : Int32} {v3 : Int32} {h : xH} {o : ((Int32 × Int32) ⊕ Int32)} {R : Option xV} (hD : 1 ≤ d) (hf : f_Sets_lyingUnder_b29 i1 v0 v2 v3 h = some o) (K1 : ∀ (w2 : Int32) (w3 : Int32), o = Sum.inl (w2, w3) → xEv g l d 40 4 [(0, xi v0), (1, xr 6 (some i1)), (2, xi w2), (3, xi w3)] [] h R h) (K0 : ∀ (a : Int32), o = Sum.inr (a) → R = some (xi a)) : xEv g l d 40 29 [(0, xi v0), (1, xr 6 (some i1)), (2, xi v2), (3, xi v3)] [] h R h := by
  unfold f_Sets_lyingUnder_b29 at hf
  obtain ⟨v3_6, ev3_6, hf⟩ := lk_let hf
  refine xe_iinc (v := v3_6) (b := 1) (ls2 := [(0, xi v0), (1, xr 6 (some i1)), (2, xi v2), (3, xi v3_6)]) d40_29 mx40 (by decide) rfl (by decide) ev3_6 rfl ?_
  refine xs_goto (tgt := 4) d40_32 (by decide) ?_
  exact K1 _ _ (Option.some.inj hf).symm
noncomputable def f_Sets_lyingUnder_s4 (i1 : Nat) (v0 : Int32) (v2 : Int32) (v3 : Int32) (h : xH) : Option ((Int32 × Int32) ⊕ Int32) :=
  if (8 : Int32) ≤ v3 then (
  some (Sum.inr (v2))) else (
  if xib v3 8 then (
  (f_Sets_has (h.2.2.2.1 30 i1 (v3).toNatClampNeg) v0 h).bind fun r3 =>
  if r3 = (0 : Int32) then (
  f_Sets_lyingUnder_b29 i1 v0 v2 v3 h) else (
  xlet (v2 ||| ((1 : Int32) <<< (v3 &&& 31))) fun v2_7 =>
  f_Sets_lyingUnder_b29 i1 v0 v2_7 v3 h)) else none)
set_option maxHeartbeats 4000000 in
set_option maxRecDepth 100000 in
theorem f_Sets_lyingUnder_s4_ok {g : xG} {l : Launch} {d : Nat} {i1 : Nat} {v0 : Int32} {v2 : Int32} {v3 : Int32} {h : xH} {o : ((Int32 × Int32) ⊕ Int32)} {R : Option xV} (hD : 1 ≤ d) (hf : f_Sets_lyingUnder_s4 i1 v0 v2 v3 h = some o) (K1 : ∀ (w2 : Int32) (w3 : Int32), o = Sum.inl (w2, w3) → xEv g l d 40 4 [(0, xi v0), (1, xr 6 (some i1)), (2, xi w2), (3, xi w3)] [] h R h) (K0 : ∀ (a : Int32), o = Sum.inr (a) → R = some (xi a)) : xEv g l d 40 4 [(0, xi v0), (1, xr 6 (some i1)), (2, xi v2), (3, xi v3)] [] h R h := by
  unfold f_Sets_lyingUnder_s4 at hf
  refine xs_iload_n d40_4 rfl ?_
  refine xs_bipush (v := 8) d40_5 (by decide) ?_
  rcases lk_if hf with ⟨hc1, hf⟩ | ⟨hc1, hf⟩
  · refine xs_icmp_ge (tgt := 35) d40_7 (by decide) (fun _ => ?_) (fun hn => absurd hc1 hn)
    refine xs_iload_n d40_35 rfl ?_
    obtain eR := K0 _ (Option.some.inj hf).symm
    subst eR
    exact xs_iret d40_36 rt40
  · refine xs_icmp_ge (tgt := 35) d40_7 (by decide) (fun hp => absurd hp hc1) (fun _ => ?_)
    refine xs_aload_n d40_10 rfl ?_
    refine xe_getc (j := i1) d40_11 ky40 fl85 fk6_5 (by omega) ?_
    refine xs_iload_n d40_14 rfl ?_
    obtain ⟨hin2, hf⟩ := lk_g hf
    refine xe_iald d40_15 (by decide) ak30 hin2 ?_
    refine xs_iload_n d40_16 rfl ?_
    obtain ⟨r3, hc4, hf⟩ := lk_b hf
    refine xe_calls1 (as := [xi (h.2.2.2.1 30 i1 (v3).toNatClampNeg), xi v0]) (st := []) (h2 := h) (d2 := d - 1) d40_17 ky40 ml118 st28 rfl na28 (Nat.le_of_ble_eq_true rfl) (by omega) (f_Sets_has_ok (by omega) hc4) ?_
    rcases lk_if hf with ⟨hc5, hf⟩ | ⟨hc5, hf⟩
    · refine xs_if_eq (tgt := 29) d40_20 (by decide) (fun _ => ?_) (fun hn => absurd hc5 hn)
      exact f_Sets_lyingUnder_b29_ok hD hf K1 K0
    · refine xs_if_eq (tgt := 29) d40_20 (by decide) (fun hp => absurd hp hc5) (fun _ => ?_)
      refine xs_iload_n d40_23 rfl ?_
      refine xs_iconst (v := 1) d40_24 (by decide) ?_
      refine xs_iload_n d40_25 rfl ?_
      refine xs_ishl d40_26 ?_
      refine xs_ior d40_27 ?_
      obtain ⟨v2_7, ev2_7, hf⟩ := lk_let hf
      refine xe_istore_n (v := v2_7) (ls2 := [(0, xi v0), (1, xr 6 (some i1)), (2, xi v2_7), (3, xi v3)]) d40_28 mx40 (by decide) ev2_7 rfl ?_
      exact f_Sets_lyingUnder_b29_ok hD hf K1 K0
noncomputable def f_Sets_lyingUnder_l4 (i1 : Nat) (v0 : Int32) (v2 : Int32) (v3 : Int32) (h : xH) : Option Int32 :=
  whl (fun s => f_Sets_lyingUnder_s4 i1 v0 s.1 s.2 h) (v2, v3)
theorem f_Sets_lyingUnder_l4_ok {g : xG} {l : Launch} {d : Nat} {i1 : Nat} {v0 : Int32} {v2 : Int32} {v3 : Int32} {h : xH} {o : Int32} {R : Option xV} (hD : 1 ≤ d) (hf : f_Sets_lyingUnder_l4 i1 v0 v2 v3 h = some o) (K0 : ∀ (a : Int32), o = a → R = some (xi a)) : xEv g l d 40 4 [(0, xi v0), (1, xr 6 (some i1)), (2, xi v2), (3, xi v3)] [] h R h := by
  obtain ⟨n, hn⟩ := whl_iff.mp hf
  clear hf
  induction n generalizing v2 v3 with
  | zero => cases hn
  | succ n ih =>
    obtain ⟨o2, hs, hn⟩ := lk_b (show (f_Sets_lyingUnder_s4 i1 v0 v2 v3 h).bind (fun o => Sum.elim (itn _ n) some o) = some o from hn)
    exact f_Sets_lyingUnder_s4_ok hD hs (fun u0 u1 e => ih (by rw [e] at hn; exact hn)) (fun u0 e => K0 u0 (by rw [e] at hn; exact (Option.some.inj hn).symm))
noncomputable def f_Sets_lyingUnder_e (i1 : Nat) (v0 : Int32) (h : xH) : Option Int32 :=
  f_Sets_lyingUnder_l4 i1 v0 (0 : Int32) (0 : Int32) h
set_option maxHeartbeats 4000000 in
set_option maxRecDepth 100000 in
theorem f_Sets_lyingUnder_e_ok {g : xG} {l : Launch} {d : Nat} {i1 : Nat} {v0 : Int32} {h : xH} {o : Int32} {R : Option xV} (hD : 1 ≤ d) (hf : f_Sets_lyingUnder_e i1 v0 h = some o) (K0 : ∀ (a : Int32), o = a → R = some (xi a)) : xEv g l d 40 0 [(0, xi v0), (1, xr 6 (some i1))] [] h R h := by
  unfold f_Sets_lyingUnder_e at hf
  refine xs_iconst (v := 0) d40_0 (by decide) ?_
  refine xe_istore_n (v := (0 : Int32)) (ls2 := [(0, xi v0), (1, xr 6 (some i1)), (2, xi (0 : Int32))]) d40_1 mx40 (by decide) rfl rfl ?_
  refine xs_iconst (v := 0) d40_2 (by decide) ?_
  refine xe_istore_n (v := (0 : Int32)) (ls2 := [(0, xi v0), (1, xr 6 (some i1)), (2, xi (0 : Int32)), (3, xi (0 : Int32))]) d40_3 mx40 (by decide) rfl rfl ?_
  exact f_Sets_lyingUnder_l4_ok hD hf K0
noncomputable def f_Sets_lyingUnder (v0 : Int32) (i1 : Nat) (h : xH) : Option Int32 := f_Sets_lyingUnder_e i1 v0 h
theorem f_Sets_lyingUnder_ok {g : xG} {l : Launch} {d : Nat} {v0 : Int32} {i1 : Nat} {h : xH} {r : Int32} (hD : 1 ≤ d) (hf : f_Sets_lyingUnder v0 i1 h = some r) : xC g l d 40 [xi v0, xr 6 (some i1)] h (some (xi r)) h :=
  xC_of2 (by decide) mx40 (Nat.le_of_ble_eq_true rfl) (f_Sets_lyingUnder_e_ok hD hf (fun _ e => by rw [e]))
theorem d39_0 : decode (xcode 39) 0 = .ok (.iload_n 1, 1) := by decide +kernel
theorem d39_1 : decode (xcode 39) 1 = .ok (.iload_n 1, 1) := by decide +kernel
theorem d39_2 : decode (xcode 39) 2 = .ok (.iconst 1, 1) := by decide +kernel
theorem d39_3 : decode (xcode 39) 3 = .ok (.isub, 1) := by decide +kernel
theorem d39_4 : decode (xcode 39) 4 = .ok (.iand, 1) := by decide +kernel
theorem d39_5 : decode (xcode 39) 5 = .ok (.ifCond .ne 5, 3) := by decide +kernel
theorem d39_8 : decode (xcode 39) 8 = .ok (.iload_n 1, 1) := by decide +kernel
theorem d39_9 : decode (xcode 39) 9 = .ok (.ireturn, 1) := by decide +kernel
theorem d39_10 : decode (xcode 39) 10 = .ok (.iconst 0, 1) := by decide +kernel
theorem d39_11 : decode (xcode 39) 11 = .ok (.istore_n 3, 1) := by decide +kernel
theorem d39_12 : decode (xcode 39) 12 = .ok (.iconst 0, 1) := by decide +kernel
theorem d39_13 : decode (xcode 39) 13 = .ok (.istore 4, 2) := by decide +kernel
theorem d39_15 : decode (xcode 39) 15 = .ok (.iload 4, 2) := by decide +kernel
theorem d39_17 : decode (xcode 39) 17 = .ok (.bipush 8, 2) := by decide +kernel
theorem d39_19 : decode (xcode 39) 19 = .ok (.if_icmp .ge 48, 3) := by decide +kernel
theorem d39_22 : decode (xcode 39) 22 = .ok (.iload_n 1, 1) := by decide +kernel
theorem d39_23 : decode (xcode 39) 23 = .ok (.iload 4, 2) := by decide +kernel
theorem d39_25 : decode (xcode 39) 25 = .ok (.invokestatic 78, 3) := by decide +kernel
theorem d39_28 : decode (xcode 39) 28 = .ok (.ifCond .eq 33, 3) := by decide +kernel
theorem d39_31 : decode (xcode 39) 31 = .ok (.aload_n 0, 1) := by decide +kernel
theorem d39_32 : decode (xcode 39) 32 = .ok (.getfield 21, 3) := by decide +kernel
theorem d39_35 : decode (xcode 39) 35 = .ok (.iload_n 1, 1) := by decide +kernel
theorem d39_36 : decode (xcode 39) 36 = .ok (.iconst 1, 1) := by decide +kernel
theorem d39_37 : decode (xcode 39) 37 = .ok (.iload 4, 2) := by decide +kernel
theorem d39_39 : decode (xcode 39) 39 = .ok (.ishl, 1) := by decide +kernel
theorem d39_40 : decode (xcode 39) 40 = .ok (.iconst (-1), 1) := by decide +kernel
theorem d39_41 : decode (xcode 39) 41 = .ok (.ixor, 1) := by decide +kernel
theorem d39_42 : decode (xcode 39) 42 = .ok (.iand, 1) := by decide +kernel
theorem d39_43 : decode (xcode 39) 43 = .ok (.iaload, 1) := by decide +kernel
theorem d39_44 : decode (xcode 39) 44 = .ok (.iload 4, 2) := by decide +kernel
theorem d39_46 : decode (xcode 39) 46 = .ok (.aload_n 2, 1) := by decide +kernel
theorem d39_47 : decode (xcode 39) 47 = .ok (.invokestatic 119, 3) := by decide +kernel
theorem d39_50 : decode (xcode 39) 50 = .ok (.iand, 1) := by decide +kernel
theorem d39_51 : decode (xcode 39) 51 = .ok (.ifCond .eq 10, 3) := by decide +kernel
theorem d39_54 : decode (xcode 39) 54 = .ok (.iload_n 3, 1) := by decide +kernel
theorem d39_55 : decode (xcode 39) 55 = .ok (.iconst 1, 1) := by decide +kernel
theorem d39_56 : decode (xcode 39) 56 = .ok (.iload 4, 2) := by decide +kernel
theorem d39_58 : decode (xcode 39) 58 = .ok (.ishl, 1) := by decide +kernel
theorem d39_59 : decode (xcode 39) 59 = .ok (.ior, 1) := by decide +kernel
theorem d39_60 : decode (xcode 39) 60 = .ok (.istore_n 3, 1) := by decide +kernel
theorem d39_61 : decode (xcode 39) 61 = .ok (.iinc 4 1, 3) := by decide +kernel
theorem d39_64 : decode (xcode 39) 64 = .ok (.goto (-49), 3) := by decide +kernel
theorem d39_67 : decode (xcode 39) 67 = .ok (.iload_n 3, 1) := by decide +kernel
theorem d39_68 : decode (xcode 39) 68 = .ok (.ireturn, 1) := by decide +kernel
noncomputable def f_Sets_beginnersOf_b61 (i2 : Nat) (v1 : Int32) (v3 : Int32) (v4 : Int32) (h : xH) : Option ((Int32 × Int32) ⊕ Int32) :=
  xlet (v4 + (1 : Int32)) fun v4_6 =>
  some (Sum.inl (v3, v4_6))
set_option maxHeartbeats 4000000 in
set_option maxRecDepth 100000 in
theorem f_Sets_beginnersOf_b61_ok {g : xG} {l : Launch} {d : Nat} {i2 : Nat} {v1 : Int32} {v3 : Int32} {v4 : Int32} {h : xH} {o : ((Int32 × Int32) ⊕ Int32)} {R : Option xV} (hD : 2 ≤ d) (hf : f_Sets_beginnersOf_b61 i2 v1 v3 v4 h = some o) (K1 : ∀ (w3 : Int32) (w4 : Int32), o = Sum.inl (w3, w4) → xEv g l d 39 15 [(0, xr 5 (some 0)), (1, xi v1), (2, xr 6 (some i2)), (3, xi w3), (4, xi w4)] [] h R h) (K0 : ∀ (a : Int32), o = Sum.inr (a) → R = some (xi a)) : xEv g l d 39 61 [(0, xr 5 (some 0)), (1, xi v1), (2, xr 6 (some i2)), (3, xi v3), (4, xi v4)] [] h R h := by
  unfold f_Sets_beginnersOf_b61 at hf
  obtain ⟨v4_6, ev4_6, hf⟩ := lk_let hf
  refine xe_iinc (v := v4_6) (b := 1) (ls2 := [(0, xr 5 (some 0)), (1, xi v1), (2, xr 6 (some i2)), (3, xi v3), (4, xi v4_6)]) d39_61 mx39 (by decide) rfl (by decide) ev4_6 rfl ?_
  refine xs_goto (tgt := 15) d39_64 (by decide) ?_
  exact K1 _ _ (Option.some.inj hf).symm
noncomputable def f_Sets_beginnersOf_s15 (i2 : Nat) (v1 : Int32) (v3 : Int32) (v4 : Int32) (h : xH) : Option ((Int32 × Int32) ⊕ Int32) :=
  if (8 : Int32) ≤ v4 then (
  some (Sum.inr (v3))) else (
  (f_Sets_has v1 v4 h).bind fun r3 =>
  if r3 = (0 : Int32) then (
  f_Sets_beginnersOf_b61 i2 v1 v3 v4 h) else (
  if xib (v1 &&& (((1 : Int32) <<< (v4 &&& 31)) ^^^ (-1 : Int32))) 256 then (
  (f_Sets_lyingUnder v4 i2 h).bind fun r8 =>
  if ((h.2.2.2.1 25 0 (v1 &&& (((1 : Int32) <<< (v4 &&& 31)) ^^^ (-1 : Int32))).toNatClampNeg) &&& r8) = (0 : Int32) then (
  f_Sets_beginnersOf_b61 i2 v1 v3 v4 h) else (
  xlet (v3 ||| ((1 : Int32) <<< (v4 &&& 31))) fun v3_11 =>
  f_Sets_beginnersOf_b61 i2 v1 v3_11 v4 h)) else none))
set_option maxHeartbeats 4000000 in
set_option maxRecDepth 100000 in
theorem f_Sets_beginnersOf_s15_ok {g : xG} {l : Launch} {d : Nat} {i2 : Nat} {v1 : Int32} {v3 : Int32} {v4 : Int32} {h : xH} {o : ((Int32 × Int32) ⊕ Int32)} {R : Option xV} (hD : 2 ≤ d) (hf : f_Sets_beginnersOf_s15 i2 v1 v3 v4 h = some o) (K1 : ∀ (w3 : Int32) (w4 : Int32), o = Sum.inl (w3, w4) → xEv g l d 39 15 [(0, xr 5 (some 0)), (1, xi v1), (2, xr 6 (some i2)), (3, xi w3), (4, xi w4)] [] h R h) (K0 : ∀ (a : Int32), o = Sum.inr (a) → R = some (xi a)) : xEv g l d 39 15 [(0, xr 5 (some 0)), (1, xi v1), (2, xr 6 (some i2)), (3, xi v3), (4, xi v4)] [] h R h := by
  unfold f_Sets_beginnersOf_s15 at hf
  refine xs_iload d39_15 rfl ?_
  refine xs_bipush (v := 8) d39_17 (by decide) ?_
  rcases lk_if hf with ⟨hc2, hf⟩ | ⟨hc2, hf⟩
  · refine xs_icmp_ge (tgt := 67) d39_19 (by decide) (fun _ => ?_) (fun hn => absurd hc2 hn)
    refine xs_iload_n d39_67 rfl ?_
    obtain eR := K0 _ (Option.some.inj hf).symm
    subst eR
    exact xs_iret d39_68 rt39
  · refine xs_icmp_ge (tgt := 67) d39_19 (by decide) (fun hp => absurd hp hc2) (fun _ => ?_)
    refine xs_iload_n d39_22 rfl ?_
    refine xs_iload d39_23 rfl ?_
    obtain ⟨r3, hc4, hf⟩ := lk_b hf
    refine xe_calls1 (as := [xi v1, xi v4]) (st := []) (h2 := h) (d2 := d - 1) d39_25 ky39 ml118 st28 rfl na28 (Nat.le_of_ble_eq_true rfl) (by omega) (f_Sets_has_ok (by omega) hc4) ?_
    rcases lk_if hf with ⟨hc5, hf⟩ | ⟨hc5, hf⟩
    · refine xs_if_eq (tgt := 61) d39_28 (by decide) (fun _ => ?_) (fun hn => absurd hc5 hn)
      exact f_Sets_beginnersOf_b61_ok hD hf K1 K0
    · refine xs_if_eq (tgt := 61) d39_28 (by decide) (fun hp => absurd hp hc5) (fun _ => ?_)
      refine xs_aload_n d39_31 rfl ?_
      refine xe_getc (j := 0) d39_32 ky39 fl136 fk5_10 rfl ?_
      refine xs_iload_n d39_35 rfl ?_
      refine xs_iconst (v := 1) d39_36 (by decide) ?_
      refine xs_iload d39_37 rfl ?_
      refine xs_ishl d39_39 ?_
      refine xs_iconst (v := -1) d39_40 (by decide) ?_
      refine xs_ixor d39_41 ?_
      refine xs_iand d39_42 ?_
      obtain ⟨hin7, hf⟩ := lk_g hf
      refine xe_iald d39_43 (by decide) ak25 hin7 ?_
      refine xs_iload d39_44 rfl ?_
      refine xs_aload_n d39_46 rfl ?_
      obtain ⟨r8, hc9, hf⟩ := lk_b hf
      refine xe_calls1 (as := [xi v4, xr 6 (some i2)]) (st := [xi (h.2.2.2.1 25 0 (v1 &&& (((1 : Int32) <<< (v4 &&& 31)) ^^^ (-1 : Int32))).toNatClampNeg)]) (h2 := h) (d2 := d - 1) d39_47 ky39 ml128 st40 rfl na40 (Nat.le_of_ble_eq_true rfl) (by omega) (f_Sets_lyingUnder_ok (by omega) hc9) ?_
      refine xs_iand d39_50 ?_
      rcases lk_if hf with ⟨hc10, hf⟩ | ⟨hc10, hf⟩
      · refine xs_if_eq (tgt := 61) d39_51 (by decide) (fun _ => ?_) (fun hn => absurd hc10 hn)
        exact f_Sets_beginnersOf_b61_ok hD hf K1 K0
      · refine xs_if_eq (tgt := 61) d39_51 (by decide) (fun hp => absurd hp hc10) (fun _ => ?_)
        refine xs_iload_n d39_54 rfl ?_
        refine xs_iconst (v := 1) d39_55 (by decide) ?_
        refine xs_iload d39_56 rfl ?_
        refine xs_ishl d39_58 ?_
        refine xs_ior d39_59 ?_
        obtain ⟨v3_11, ev3_11, hf⟩ := lk_let hf
        refine xe_istore_n (v := v3_11) (ls2 := [(0, xr 5 (some 0)), (1, xi v1), (2, xr 6 (some i2)), (3, xi v3_11), (4, xi v4)]) d39_60 mx39 (by decide) ev3_11 rfl ?_
        exact f_Sets_beginnersOf_b61_ok hD hf K1 K0
noncomputable def f_Sets_beginnersOf_l15 (i2 : Nat) (v1 : Int32) (v3 : Int32) (v4 : Int32) (h : xH) : Option Int32 :=
  whl (fun s => f_Sets_beginnersOf_s15 i2 v1 s.1 s.2 h) (v3, v4)
theorem f_Sets_beginnersOf_l15_ok {g : xG} {l : Launch} {d : Nat} {i2 : Nat} {v1 : Int32} {v3 : Int32} {v4 : Int32} {h : xH} {o : Int32} {R : Option xV} (hD : 2 ≤ d) (hf : f_Sets_beginnersOf_l15 i2 v1 v3 v4 h = some o) (K0 : ∀ (a : Int32), o = a → R = some (xi a)) : xEv g l d 39 15 [(0, xr 5 (some 0)), (1, xi v1), (2, xr 6 (some i2)), (3, xi v3), (4, xi v4)] [] h R h := by
  obtain ⟨n, hn⟩ := whl_iff.mp hf
  clear hf
  induction n generalizing v3 v4 with
  | zero => cases hn
  | succ n ih =>
    obtain ⟨o2, hs, hn⟩ := lk_b (show (f_Sets_beginnersOf_s15 i2 v1 v3 v4 h).bind (fun o => Sum.elim (itn _ n) some o) = some o from hn)
    exact f_Sets_beginnersOf_s15_ok hD hs (fun u0 u1 e => ih (by rw [e] at hn; exact hn)) (fun u0 e => K0 u0 (by rw [e] at hn; exact (Option.some.inj hn).symm))
noncomputable def f_Sets_beginnersOf_e (i2 : Nat) (v1 : Int32) (h : xH) : Option Int32 :=
  if (v1 &&& (v1 - (1 : Int32))) = (0 : Int32) then (
  some (v1)) else (
  f_Sets_beginnersOf_l15 i2 v1 (0 : Int32) (0 : Int32) h)
set_option maxHeartbeats 4000000 in
set_option maxRecDepth 100000 in
theorem f_Sets_beginnersOf_e_ok {g : xG} {l : Launch} {d : Nat} {i2 : Nat} {v1 : Int32} {h : xH} {o : Int32} {R : Option xV} (hD : 2 ≤ d) (hf : f_Sets_beginnersOf_e i2 v1 h = some o) (K0 : ∀ (a : Int32), o = a → R = some (xi a)) : xEv g l d 39 0 [(0, xr 5 (some 0)), (1, xi v1), (2, xr 6 (some i2))] [] h R h := by
  unfold f_Sets_beginnersOf_e at hf
  refine xs_iload_n d39_0 rfl ?_
  refine xs_iload_n d39_1 rfl ?_
  refine xs_iconst (v := 1) d39_2 (by decide) ?_
  refine xs_isub d39_3 ?_
  refine xs_iand d39_4 ?_
  rcases lk_if hf with ⟨hc1, hf⟩ | ⟨hc1, hf⟩
  · refine xs_if_ne (tgt := 10) d39_5 (by decide) (fun _ => ?_) (fun hn => absurd hc1 hn)
    refine xs_iload_n d39_8 rfl ?_
    obtain eR := K0 _ (Option.some.inj hf).symm
    subst eR
    exact xs_iret d39_9 rt39
  · refine xs_if_ne (tgt := 10) d39_5 (by decide) (fun hp => absurd hp hc1) (fun _ => ?_)
    refine xs_iconst (v := 0) d39_10 (by decide) ?_
    refine xe_istore_n (v := (0 : Int32)) (ls2 := [(0, xr 5 (some 0)), (1, xi v1), (2, xr 6 (some i2)), (3, xi (0 : Int32))]) d39_11 mx39 (by decide) rfl rfl ?_
    refine xs_iconst (v := 0) d39_12 (by decide) ?_
    refine xe_istore (v := (0 : Int32)) (ls2 := [(0, xr 5 (some 0)), (1, xi v1), (2, xr 6 (some i2)), (3, xi (0 : Int32)), (4, xi (0 : Int32))]) d39_13 mx39 (by decide) rfl rfl ?_
    exact f_Sets_beginnersOf_l15_ok hD hf K0
noncomputable def f_Sets_beginnersOf (v1 : Int32) (i2 : Nat) (h : xH) : Option Int32 := f_Sets_beginnersOf_e i2 v1 h
theorem f_Sets_beginnersOf_ok {g : xG} {l : Launch} {d : Nat} {v1 : Int32} {i2 : Nat} {h : xH} {r : Int32} (hD : 2 ≤ d) (hf : f_Sets_beginnersOf v1 i2 h = some r) : xC g l d 39 [xr 5 (some 0), xi v1, xr 6 (some i2)] h (some (xi r)) h :=
  xC_of2 (by decide) mx39 (Nat.le_of_ble_eq_true rfl) (f_Sets_beginnersOf_e_ok hD hf (fun _ e => by rw [e]))
theorem d38_0 : decode (xcode 38) 0 = .ok (.iload_n 1, 1) := by decide +kernel
theorem d38_1 : decode (xcode 38) 1 = .ok (.aload_n 0, 1) := by decide +kernel
theorem d38_2 : decode (xcode 38) 2 = .ok (.getfield 105, 3) := by decide +kernel
theorem d38_5 : decode (xcode 38) 5 = .ok (.if_icmp .gt 19, 3) := by decide +kernel
theorem d38_8 : decode (xcode 38) 8 = .ok (.iload_n 1, 1) := by decide +kernel
theorem d38_9 : decode (xcode 38) 9 = .ok (.aload_n 0, 1) := by decide +kernel
theorem d38_10 : decode (xcode 38) 10 = .ok (.getfield 105, 3) := by decide +kernel
theorem d38_13 : decode (xcode 38) 13 = .ok (.if_icmp .ne 21, 3) := by decide +kernel
theorem d38_16 : decode (xcode 38) 16 = .ok (.iload_n 2, 1) := by decide +kernel
theorem d38_17 : decode (xcode 38) 17 = .ok (.aload_n 0, 1) := by decide +kernel
theorem d38_18 : decode (xcode 38) 18 = .ok (.getfield 108, 3) := by decide +kernel
theorem d38_21 : decode (xcode 38) 21 = .ok (.if_icmp .ge 13, 3) := by decide +kernel
theorem d38_24 : decode (xcode 38) 24 = .ok (.aload_n 0, 1) := by decide +kernel
theorem d38_25 : decode (xcode 38) 25 = .ok (.iload_n 1, 1) := by decide +kernel
theorem d38_26 : decode (xcode 38) 26 = .ok (.putfield 105, 3) := by decide +kernel
theorem d38_29 : decode (xcode 38) 29 = .ok (.aload_n 0, 1) := by decide +kernel
theorem d38_30 : decode (xcode 38) 30 = .ok (.iload_n 2, 1) := by decide +kernel
theorem d38_31 : decode (xcode 38) 31 = .ok (.putfield 108, 3) := by decide +kernel
theorem d38_34 : decode (xcode 38) 34 = .ok (.return_, 1) := by decide +kernel
noncomputable def f_Sets_keepChain_b24 (v1 : Int32) (v2 : Int32) (h : xH) : Option xH :=
  xlet (xsI h 5 4 0 v1) fun h2 =>
  xlet (xsI h2 5 5 0 v2) fun h3 =>
  some (h3)
set_option maxHeartbeats 4000000 in
set_option maxRecDepth 100000 in
theorem f_Sets_keepChain_b24_ok {g : xG} {l : Launch} {d : Nat} {v1 : Int32} {v2 : Int32} {h : xH} {o : xH} {R : Option xV} {H' : xH} (hD : 0 ≤ d) (hf : f_Sets_keepChain_b24 v1 v2 h = some o) (K0 : ∀ (h1 : xH), o = h1 → R = none ∧ H' = h1) : xEv g l d 38 24 [(0, xr 5 (some 0)), (1, xi v1), (2, xi v2)] [] h R H' := by
  unfold f_Sets_keepChain_b24 at hf
  refine xs_aload_n d38_24 rfl ?_
  refine xs_iload_n d38_25 rfl ?_
  obtain ⟨h2, eh2, hf⟩ := lk_let hf
  refine xe_puti d38_26 ky38 fl126 fk5_4 ft5_4 eh2 ?_
  refine xs_aload_n d38_29 rfl ?_
  refine xs_iload_n d38_30 rfl ?_
  obtain ⟨h3, eh3, hf⟩ := lk_let hf
  refine xe_puti d38_31 ky38 fl128 fk5_5 ft5_5 eh3 ?_
  obtain ⟨eR, eH⟩ := K0 _ (Option.some.inj hf).symm
  subst eR; subst eH
  exact xs_vret d38_34 rt38
noncomputable def f_Sets_keepChain_e (v1 : Int32) (v2 : Int32) (h : xH) : Option xH :=
  if (h.1 5 4 0) < v1 then (
  f_Sets_keepChain_b24 v1 v2 h) else (
  if v1 = (h.1 5 4 0) then (
  if (h.1 5 5 0) ≤ v2 then (
  some (h)) else (
  f_Sets_keepChain_b24 v1 v2 h)) else (
  some (h)))
set_option maxHeartbeats 4000000 in
set_option maxRecDepth 100000 in
theorem f_Sets_keepChain_e_ok {g : xG} {l : Launch} {d : Nat} {v1 : Int32} {v2 : Int32} {h : xH} {o : xH} {R : Option xV} {H' : xH} (hD : 0 ≤ d) (hf : f_Sets_keepChain_e v1 v2 h = some o) (K0 : ∀ (h1 : xH), o = h1 → R = none ∧ H' = h1) : xEv g l d 38 0 [(0, xr 5 (some 0)), (1, xi v1), (2, xi v2)] [] h R H' := by
  unfold f_Sets_keepChain_e at hf
  refine xs_iload_n d38_0 rfl ?_
  refine xs_aload_n d38_1 rfl ?_
  refine xe_geti d38_2 ky38 fl126 fk5_4 ?_
  rcases lk_if hf with ⟨hc1, hf⟩ | ⟨hc1, hf⟩
  · refine xs_icmp_gt (tgt := 24) d38_5 (by decide) (fun _ => ?_) (fun hn => absurd hc1 hn)
    exact f_Sets_keepChain_b24_ok hD hf K0
  · refine xs_icmp_gt (tgt := 24) d38_5 (by decide) (fun hp => absurd hp hc1) (fun _ => ?_)
    refine xs_iload_n d38_8 rfl ?_
    refine xs_aload_n d38_9 rfl ?_
    refine xe_geti d38_10 ky38 fl126 fk5_4 ?_
    rcases lk_if hf with ⟨hc4, hf⟩ | ⟨hc4, hf⟩
    · refine xs_icmp_ne (tgt := 34) d38_13 (by decide) (fun _ => ?_) (fun hn => absurd hc4 hn)
      refine xs_iload_n d38_16 rfl ?_
      refine xs_aload_n d38_17 rfl ?_
      refine xe_geti d38_18 ky38 fl128 fk5_5 ?_
      rcases lk_if hf with ⟨hc5, hf⟩ | ⟨hc5, hf⟩
      · refine xs_icmp_ge (tgt := 34) d38_21 (by decide) (fun _ => ?_) (fun hn => absurd hc5 hn)
        obtain ⟨eR, eH⟩ := K0 _ (Option.some.inj hf).symm
        subst eR; subst eH
        exact xs_vret d38_34 rt38
      · refine xs_icmp_ge (tgt := 34) d38_21 (by decide) (fun hp => absurd hp hc5) (fun _ => ?_)
        exact f_Sets_keepChain_b24_ok hD hf K0
    · refine xs_icmp_ne (tgt := 34) d38_13 (by decide) (fun hp => absurd hp hc4) (fun _ => ?_)
      obtain ⟨eR, eH⟩ := K0 _ (Option.some.inj hf).symm
      subst eR; subst eH
      exact xs_vret d38_34 rt38
noncomputable def f_Sets_keepChain (v1 : Int32) (v2 : Int32) (h : xH) : Option xH := f_Sets_keepChain_e v1 v2 h
theorem f_Sets_keepChain_ok {g : xG} {l : Launch} {d : Nat} {v1 : Int32} {v2 : Int32} {h : xH} {h1 : xH} (hD : 0 ≤ d) (hf : f_Sets_keepChain v1 v2 h = some h1) : xC g l d 38 [xr 5 (some 0), xi v1, xi v2] h none h1 :=
  xC_of2 (by decide) mx38 (Nat.le_of_ble_eq_true rfl) (f_Sets_keepChain_e_ok hD hf (fun _ e => ⟨rfl, e⟩))
theorem d37_0 : decode (xcode 37) 0 = .ok (.aload_n 1, 1) := by decide +kernel
theorem d37_1 : decode (xcode 37) 1 = .ok (.getfield 49, 3) := by decide +kernel
theorem d37_4 : decode (xcode 37) 4 = .ok (.aload_n 0, 1) := by decide +kernel
theorem d37_5 : decode (xcode 37) 5 = .ok (.getfield 18, 3) := by decide +kernel
theorem d37_8 : decode (xcode 37) 8 = .ok (.invokestatic 45, 3) := by decide +kernel
theorem d37_11 : decode (xcode 37) 11 = .ok (.aload_n 0, 1) := by decide +kernel
theorem d37_12 : decode (xcode 37) 12 = .ok (.iconst 0, 1) := by decide +kernel
theorem d37_13 : decode (xcode 37) 13 = .ok (.putfield 105, 3) := by decide +kernel
theorem d37_16 : decode (xcode 37) 16 = .ok (.aload_n 0, 1) := by decide +kernel
theorem d37_17 : decode (xcode 37) 17 = .ok (.bipush (-2), 2) := by decide +kernel
theorem d37_19 : decode (xcode 37) 19 = .ok (.putfield 108, 3) := by decide +kernel
theorem d37_22 : decode (xcode 37) 22 = .ok (.iconst 1, 1) := by decide +kernel
theorem d37_23 : decode (xcode 37) 23 = .ok (.istore_n 2, 1) := by decide +kernel
theorem d37_24 : decode (xcode 37) 24 = .ok (.iload_n 2, 1) := by decide +kernel
theorem d37_25 : decode (xcode 37) 25 = .ok (.sipush 256, 3) := by decide +kernel
theorem d37_28 : decode (xcode 37) 28 = .ok (.if_icmp .ge 64, 3) := by decide +kernel
theorem d37_31 : decode (xcode 37) 31 = .ok (.aload_n 0, 1) := by decide +kernel
theorem d37_32 : decode (xcode 37) 32 = .ok (.getfield 21, 3) := by decide +kernel
theorem d37_35 : decode (xcode 37) 35 = .ok (.iload_n 2, 1) := by decide +kernel
theorem d37_36 : decode (xcode 37) 36 = .ok (.iload_n 2, 1) := by decide +kernel
theorem d37_37 : decode (xcode 37) 37 = .ok (.aload_n 1, 1) := by decide +kernel
theorem d37_38 : decode (xcode 37) 38 = .ok (.getfield 68, 3) := by decide +kernel
theorem d37_41 : decode (xcode 37) 41 = .ok (.iconst (-1), 1) := by decide +kernel
theorem d37_42 : decode (xcode 37) 42 = .ok (.ixor, 1) := by decide +kernel
theorem d37_43 : decode (xcode 37) 43 = .ok (.iand, 1) := by decide +kernel
theorem d37_44 : decode (xcode 37) 44 = .ok (.ifCond .ne 12, 3) := by decide +kernel
theorem d37_47 : decode (xcode 37) 47 = .ok (.aload_n 0, 1) := by decide +kernel
theorem d37_48 : decode (xcode 37) 48 = .ok (.iload_n 2, 1) := by decide +kernel
theorem d37_49 : decode (xcode 37) 49 = .ok (.aload_n 1, 1) := by decide +kernel
theorem d37_50 : decode (xcode 37) 50 = .ok (.invokevirtual 111, 3) := by decide +kernel
theorem d37_53 : decode (xcode 37) 53 = .ok (.goto 4, 3) := by decide +kernel
theorem d37_56 : decode (xcode 37) 56 = .ok (.iconst 0, 1) := by decide +kernel
theorem d37_57 : decode (xcode 37) 57 = .ok (.iastore, 1) := by decide +kernel
theorem d37_58 : decode (xcode 37) 58 = .ok (.aload_n 0, 1) := by decide +kernel
theorem d37_59 : decode (xcode 37) 59 = .ok (.getfield 21, 3) := by decide +kernel
theorem d37_62 : decode (xcode 37) 62 = .ok (.iload_n 2, 1) := by decide +kernel
theorem d37_63 : decode (xcode 37) 63 = .ok (.iaload, 1) := by decide +kernel
theorem d37_64 : decode (xcode 37) 64 = .ok (.ifCond .eq 22, 3) := by decide +kernel
theorem d37_67 : decode (xcode 37) 67 = .ok (.aload_n 0, 1) := by decide +kernel
theorem d37_68 : decode (xcode 37) 68 = .ok (.aload_n 0, 1) := by decide +kernel
theorem d37_69 : decode (xcode 37) 69 = .ok (.getfield 18, 3) := by decide +kernel
theorem d37_72 : decode (xcode 37) 72 = .ok (.iload_n 2, 1) := by decide +kernel
theorem d37_73 : decode (xcode 37) 73 = .ok (.iaload, 1) := by decide +kernel
theorem d37_74 : decode (xcode 37) 74 = .ok (.aload_n 0, 1) := by decide +kernel
theorem d37_75 : decode (xcode 37) 75 = .ok (.getfield 21, 3) := by decide +kernel
theorem d37_78 : decode (xcode 37) 78 = .ok (.iload_n 2, 1) := by decide +kernel
theorem d37_79 : decode (xcode 37) 79 = .ok (.iaload, 1) := by decide +kernel
theorem d37_80 : decode (xcode 37) 80 = .ok (.invokestatic 34, 3) := by decide +kernel
theorem d37_83 : decode (xcode 37) 83 = .ok (.invokevirtual 115, 3) := by decide +kernel
theorem d37_86 : decode (xcode 37) 86 = .ok (.iinc 2 1, 3) := by decide +kernel
theorem d37_89 : decode (xcode 37) 89 = .ok (.goto (-65), 3) := by decide +kernel
theorem d37_92 : decode (xcode 37) 92 = .ok (.return_, 1) := by decide +kernel
noncomputable def f_Sets_findChain_b86 (i1 : Nat) (v2 : Int32) (h : xH) : Option ((Int32 × xH) ⊕ xH) :=
  xlet (v2 + (1 : Int32)) fun v2_14 =>
  some (Sum.inl (v2_14, h))
set_option maxHeartbeats 4000000 in
set_option maxRecDepth 100000 in
theorem f_Sets_findChain_b86_ok {g : xG} {l : Launch} {d : Nat} {i1 : Nat} {v2 : Int32} {h : xH} {o : ((Int32 × xH) ⊕ xH)} {R : Option xV} {H' : xH} (hD : 3 ≤ d) (hf : f_Sets_findChain_b86 i1 v2 h = some o) (K1 : ∀ (w2 : Int32) (h1 : xH), o = Sum.inl (w2, h1) → xEv g l d 37 24 [(0, xr 5 (some 0)), (1, xr 6 (some i1)), (2, xi w2)] [] h1 R H') (K0 : ∀ (h1 : xH), o = Sum.inr (h1) → R = none ∧ H' = h1) : xEv g l d 37 86 [(0, xr 5 (some 0)), (1, xr 6 (some i1)), (2, xi v2)] [] h R H' := by
  unfold f_Sets_findChain_b86 at hf
  obtain ⟨v2_14, ev2_14, hf⟩ := lk_let hf
  refine xe_iinc (v := v2_14) (b := 1) (ls2 := [(0, xr 5 (some 0)), (1, xr 6 (some i1)), (2, xi v2_14)]) d37_86 mx37 (by decide) rfl (by decide) ev2_14 rfl ?_
  refine xs_goto (tgt := 24) d37_89 (by decide) ?_
  exact K1 _ _ (Option.some.inj hf).symm
noncomputable def f_Sets_findChain_b57 (i1 : Nat) (v2 : Int32) (t0 : Int32) (t1 : Int32) (h : xH) : Option ((Int32 × xH) ⊕ xH) :=
  if xib t1 256 then (
  xlet (xsA h 25 0 (upd (h.2.2.2.1 25 0) (t1).toNatClampNeg t0)) fun h11 =>
  if xib v2 256 then (
  if (h11.2.2.2.1 25 0 (v2).toNatClampNeg) = (0 : Int32) then (
  f_Sets_findChain_b86 i1 v2 h11) else (
  if xib v2 256 then (
  if xib v2 256 then (
  (f_Integer_numberOfTrailingZeros (h11.2.2.2.1 25 0 (v2).toNatClampNeg) h11).bind fun r17 =>
  (f_Sets_keepChain (h11.2.2.2.1 24 0 (v2).toNatClampNeg) r17 h11).bind fun h21 =>
  f_Sets_findChain_b86 i1 v2 h21) else none) else none)) else none) else none
set_option maxHeartbeats 4000000 in
set_option maxRecDepth 100000 in
theorem f_Sets_findChain_b57_ok {g : xG} {l : Launch} {d : Nat} {i1 : Nat} {v2 : Int32} {t0 : Int32} {t1 : Int32} {h : xH} {o : ((Int32 × xH) ⊕ xH)} {R : Option xV} {H' : xH} (hD : 3 ≤ d) (hf : f_Sets_findChain_b57 i1 v2 t0 t1 h = some o) (K1 : ∀ (w2 : Int32) (h1 : xH), o = Sum.inl (w2, h1) → xEv g l d 37 24 [(0, xr 5 (some 0)), (1, xr 6 (some i1)), (2, xi w2)] [] h1 R H') (K0 : ∀ (h1 : xH), o = Sum.inr (h1) → R = none ∧ H' = h1) : xEv g l d 37 57 [(0, xr 5 (some 0)), (1, xr 6 (some i1)), (2, xi v2)] [xi t0, xi t1, xr 25 (some 0)] h R H' := by
  unfold f_Sets_findChain_b57 at hf
  obtain ⟨hin10, hf⟩ := lk_g hf
  obtain ⟨h11, eh11, hf⟩ := lk_let hf
  refine xe_iast d37_57 (by decide) ak25 hin10  eh11 ?_
  refine xs_aload_n d37_58 rfl ?_
  refine xe_getc (j := 0) d37_59 ky37 fl136 fk5_10 rfl ?_
  refine xs_iload_n d37_62 rfl ?_
  obtain ⟨hin12, hf⟩ := lk_g hf
  refine xe_iald d37_63 (by decide) ak25 hin12 ?_
  rcases lk_if hf with ⟨hc13, hf⟩ | ⟨hc13, hf⟩
  · refine xs_if_eq (tgt := 86) d37_64 (by decide) (fun _ => ?_) (fun hn => absurd hc13 hn)
    exact f_Sets_findChain_b86_ok hD hf K1 K0
  · refine xs_if_eq (tgt := 86) d37_64 (by decide) (fun hp => absurd hp hc13) (fun _ => ?_)
    refine xs_aload_n d37_67 rfl ?_
    refine xs_aload_n d37_68 rfl ?_
    refine xe_getc (j := 0) d37_69 ky37 fl135 fk5_9 rfl ?_
    refine xs_iload_n d37_72 rfl ?_
    obtain ⟨hin15, hf⟩ := lk_g hf
    refine xe_iald d37_73 (by decide) ak24 hin15 ?_
    refine xs_aload_n d37_74 rfl ?_
    refine xe_getc (j := 0) d37_75 ky37 fl136 fk5_10 rfl ?_
    refine xs_iload_n d37_78 rfl ?_
    obtain ⟨hin16, hf⟩ := lk_g hf
    refine xe_iald d37_79 (by decide) ak25 hin16 ?_
    obtain ⟨r17, hc18, hf⟩ := lk_b hf
    refine xe_calls1 (as := [xi (h11.2.2.2.1 25 0 (v2).toNatClampNeg)]) (st := [xi (h11.2.2.2.1 24 0 (v2).toNatClampNeg), xr 5 (some 0)]) (h2 := h11) (d2 := d - 1) d37_80 ky37 ml116 st254 rfl na254 (Nat.le_of_ble_eq_true rfl) (by omega) (f_Integer_numberOfTrailingZeros_ok (by omega) hc18) ?_
    obtain ⟨h21, hc20, hf⟩ := lk_b hf
    refine xe_callv0 (as := [xi (h11.2.2.2.1 24 0 (v2).toNatClampNeg), xi r17]) (st := []) (h2 := h21) (d2 := d - 1) d37_83 ky37 ml129 st38 (by decide) cn38 rfl na38 (Nat.le_of_ble_eq_true rfl) (by omega) (f_Sets_keepChain_ok (by omega) hc20) ?_
    exact f_Sets_findChain_b86_ok hD hf K1 K0
noncomputable def f_Sets_findChain_s24 (i1 : Nat) (v2 : Int32) (h : xH) : Option ((Int32 × xH) ⊕ xH) :=
  if (256 : Int32) ≤ v2 then (
  some (Sum.inr (h))) else (
  if (v2 &&& ((h.1 6 2 i1) ^^^ (-1 : Int32))) = (0 : Int32) then (
  (f_Sets_beginnersOf v2 i1 h).bind fun r8 =>
  f_Sets_findChain_b57 i1 v2 r8 v2 h) else (
  f_Sets_findChain_b57 i1 v2 (0 : Int32) v2 h))
set_option maxHeartbeats 4000000 in
set_option maxRecDepth 100000 in
theorem f_Sets_findChain_s24_ok {g : xG} {l : Launch} {d : Nat} {i1 : Nat} {v2 : Int32} {h : xH} {o : ((Int32 × xH) ⊕ xH)} {R : Option xV} {H' : xH} (hD : 3 ≤ d) (hf : f_Sets_findChain_s24 i1 v2 h = some o) (K1 : ∀ (w2 : Int32) (h1 : xH), o = Sum.inl (w2, h1) → xEv g l d 37 24 [(0, xr 5 (some 0)), (1, xr 6 (some i1)), (2, xi w2)] [] h1 R H') (K0 : ∀ (h1 : xH), o = Sum.inr (h1) → R = none ∧ H' = h1) : xEv g l d 37 24 [(0, xr 5 (some 0)), (1, xr 6 (some i1)), (2, xi v2)] [] h R H' := by
  unfold f_Sets_findChain_s24 at hf
  refine xs_iload_n d37_24 rfl ?_
  refine xs_sipush (v := 256) d37_25 (by decide) ?_
  rcases lk_if hf with ⟨hc6, hf⟩ | ⟨hc6, hf⟩
  · refine xs_icmp_ge (tgt := 92) d37_28 (by decide) (fun _ => ?_) (fun hn => absurd hc6 hn)
    obtain ⟨eR, eH⟩ := K0 _ (Option.some.inj hf).symm
    subst eR; subst eH
    exact xs_vret d37_92 rt37
  · refine xs_icmp_ge (tgt := 92) d37_28 (by decide) (fun hp => absurd hp hc6) (fun _ => ?_)
    refine xs_aload_n d37_31 rfl ?_
    refine xe_getc (j := 0) d37_32 ky37 fl136 fk5_10 rfl ?_
    refine xs_iload_n d37_35 rfl ?_
    refine xs_iload_n d37_36 rfl ?_
    refine xs_aload_n d37_37 rfl ?_
    refine xe_geti d37_38 ky37 fl76 fk6_2 ?_
    refine xs_iconst (v := -1) d37_41 (by decide) ?_
    refine xs_ixor d37_42 ?_
    refine xs_iand d37_43 ?_
    rcases lk_if hf with ⟨hc7, hf⟩ | ⟨hc7, hf⟩
    · refine xs_if_ne (tgt := 56) d37_44 (by decide) (fun _ => ?_) (fun hn => absurd hc7 hn)
      refine xs_aload_n d37_47 rfl ?_
      refine xs_iload_n d37_48 rfl ?_
      refine xs_aload_n d37_49 rfl ?_
      obtain ⟨r8, hc9, hf⟩ := lk_b hf
      refine xe_callv1 (as := [xi v2, xr 6 (some i1)]) (st := [xi v2, xr 25 (some 0)]) (h2 := h) (d2 := d - 1) d37_50 ky37 ml127 st39 (by decide) cn39 rfl na39 (Nat.le_of_ble_eq_true rfl) (by omega) (f_Sets_beginnersOf_ok (by omega) hc9) ?_
      refine xs_goto (tgt := 57) d37_53 (by decide) ?_
      exact f_Sets_findChain_b57_ok hD hf K1 K0
    · refine xs_if_ne (tgt := 56) d37_44 (by decide) (fun hp => absurd hp hc7) (fun _ => ?_)
      refine xs_iconst (v := 0) d37_56 (by decide) ?_
      exact f_Sets_findChain_b57_ok hD hf K1 K0
noncomputable def f_Sets_findChain_l24 (i1 : Nat) (v2 : Int32) (h : xH) : Option xH :=
  whl (fun s => f_Sets_findChain_s24 i1 s.1 s.2) (v2, h)
theorem f_Sets_findChain_l24_ok {g : xG} {l : Launch} {d : Nat} {i1 : Nat} {v2 : Int32} {h : xH} {o : xH} {R : Option xV} {H' : xH} (hD : 3 ≤ d) (hf : f_Sets_findChain_l24 i1 v2 h = some o) (K0 : ∀ (h1 : xH), o = h1 → R = none ∧ H' = h1) : xEv g l d 37 24 [(0, xr 5 (some 0)), (1, xr 6 (some i1)), (2, xi v2)] [] h R H' := by
  obtain ⟨n, hn⟩ := whl_iff.mp hf
  clear hf
  induction n generalizing v2 h with
  | zero => cases hn
  | succ n ih =>
    obtain ⟨o2, hs, hn⟩ := lk_b (show (f_Sets_findChain_s24 i1 v2 h).bind (fun o => Sum.elim (itn _ n) some o) = some o from hn)
    exact f_Sets_findChain_s24_ok hD hs (fun u0 u1 e => ih (by rw [e] at hn; exact hn)) (fun u0 e => K0 u0 (by rw [e] at hn; exact (Option.some.inj hn).symm))
noncomputable def f_Sets_findChain_e (i1 : Nat) (h : xH) : Option xH :=
  (f_Sets_addUp_32_24 i1 h).bind fun h3 =>
  xlet (xsI h3 5 4 0 (0 : Int32)) fun h4 =>
  xlet (xsI h4 5 5 0 (-2 : Int32)) fun h5 =>
  f_Sets_findChain_l24 i1 (1 : Int32) h5
set_option maxHeartbeats 4000000 in
set_option maxRecDepth 100000 in
theorem f_Sets_findChain_e_ok {g : xG} {l : Launch} {d : Nat} {i1 : Nat} {h : xH} {o : xH} {R : Option xV} {H' : xH} (hD : 3 ≤ d) (hf : f_Sets_findChain_e i1 h = some o) (K0 : ∀ (h1 : xH), o = h1 → R = none ∧ H' = h1) : xEv g l d 37 0 [(0, xr 5 (some 0)), (1, xr 6 (some i1))] [] h R H' := by
  unfold f_Sets_findChain_e at hf
  refine xs_aload_n d37_0 rfl ?_
  refine xe_getc (j := i1) d37_1 ky37 fl92 fk6_7 (by omega) ?_
  refine xs_aload_n d37_4 rfl ?_
  refine xe_getc (j := 0) d37_5 ky37 fl135 fk5_9 rfl ?_
  obtain ⟨h3, hc2, hf⟩ := lk_b hf
  refine xe_calls0 (as := [xr 32 (some i1), xr 24 (some 0)]) (st := []) (h2 := h3) (d2 := d - 1) d37_8 ky37 ml115 st29 rfl na29 (Nat.le_of_ble_eq_true rfl) (by omega) (f_Sets_addUp_32_24_ok (by omega) hc2) ?_
  refine xs_aload_n d37_11 rfl ?_
  refine xs_iconst (v := 0) d37_12 (by decide) ?_
  obtain ⟨h4, eh4, hf⟩ := lk_let hf
  refine xe_puti d37_13 ky37 fl126 fk5_4 ft5_4 eh4 ?_
  refine xs_aload_n d37_16 rfl ?_
  refine xs_bipush (v := -2) d37_17 (by decide) ?_
  obtain ⟨h5, eh5, hf⟩ := lk_let hf
  refine xe_puti d37_19 ky37 fl128 fk5_5 ft5_5 eh5 ?_
  refine xs_iconst (v := 1) d37_22 (by decide) ?_
  refine xe_istore_n (v := (1 : Int32)) (ls2 := [(0, xr 5 (some 0)), (1, xr 6 (some i1)), (2, xi (1 : Int32))]) d37_23 mx37 (by decide) rfl rfl ?_
  exact f_Sets_findChain_l24_ok hD hf K0
noncomputable def f_Sets_findChain (i1 : Nat) (h : xH) : Option xH := f_Sets_findChain_e i1 h
theorem f_Sets_findChain_ok {g : xG} {l : Launch} {d : Nat} {i1 : Nat} {h : xH} {h1 : xH} (hD : 3 ≤ d) (hf : f_Sets_findChain i1 h = some h1) : xC g l d 37 [xr 5 (some 0), xr 6 (some i1)] h none h1 :=
  xC_of2 (by decide) mx37 (Nat.le_of_ble_eq_true rfl) (f_Sets_findChain_e_ok hD hf (fun _ e => ⟨rfl, e⟩))
theorem d41_0 : decode (xcode 41) 0 = .ok (.iconst 0, 1) := by decide +kernel
theorem d41_1 : decode (xcode 41) 1 = .ok (.istore_n 3, 1) := by decide +kernel
theorem d41_2 : decode (xcode 41) 2 = .ok (.iload_n 3, 1) := by decide +kernel
theorem d41_3 : decode (xcode 41) 3 = .ok (.bipush 8, 2) := by decide +kernel
theorem d41_5 : decode (xcode 41) 5 = .ok (.if_icmp .ge 32, 3) := by decide +kernel
theorem d41_8 : decode (xcode 41) 8 = .ok (.aload_n 0, 1) := by decide +kernel
theorem d41_9 : decode (xcode 41) 9 = .ok (.getfield 31, 3) := by decide +kernel
theorem d41_12 : decode (xcode 41) 12 = .ok (.iload_n 3, 1) := by decide +kernel
theorem d41_13 : decode (xcode 41) 13 = .ok (.iload_n 1, 1) := by decide +kernel
theorem d41_14 : decode (xcode 41) 14 = .ok (.iload_n 3, 1) := by decide +kernel
theorem d41_15 : decode (xcode 41) 15 = .ok (.invokestatic 78, 3) := by decide +kernel
theorem d41_18 : decode (xcode 41) 18 = .ok (.ifCond .eq 11, 3) := by decide +kernel
theorem d41_21 : decode (xcode 41) 21 = .ok (.aload_n 2, 1) := by decide +kernel
theorem d41_22 : decode (xcode 41) 22 = .ok (.iload_n 3, 1) := by decide +kernel
theorem d41_23 : decode (xcode 41) 23 = .ok (.iaload, 1) := by decide +kernel
theorem d41_24 : decode (xcode 41) 24 = .ok (.iload_n 1, 1) := by decide +kernel
theorem d41_25 : decode (xcode 41) 25 = .ok (.iand, 1) := by decide +kernel
theorem d41_26 : decode (xcode 41) 26 = .ok (.goto 4, 3) := by decide +kernel
theorem d41_29 : decode (xcode 41) 29 = .ok (.iconst 0, 1) := by decide +kernel
theorem d41_30 : decode (xcode 41) 30 = .ok (.iastore, 1) := by decide +kernel
theorem d41_31 : decode (xcode 41) 31 = .ok (.iinc 3 1, 3) := by decide +kernel
theorem d41_34 : decode (xcode 41) 34 = .ok (.goto (-32), 3) := by decide +kernel
theorem d41_37 : decode (xcode 41) 37 = .ok (.iconst 0, 1) := by decide +kernel
theorem d41_38 : decode (xcode 41) 38 = .ok (.istore_n 3, 1) := by decide +kernel
theorem d41_39 : decode (xcode 41) 39 = .ok (.iload_n 3, 1) := by decide +kernel
theorem d41_40 : decode (xcode 41) 40 = .ok (.bipush 8, 2) := by decide +kernel
theorem d41_42 : decode (xcode 41) 42 = .ok (.if_icmp .ge 55, 3) := by decide +kernel
theorem d41_45 : decode (xcode 41) 45 = .ok (.iconst 0, 1) := by decide +kernel
theorem d41_46 : decode (xcode 41) 46 = .ok (.istore 4, 2) := by decide +kernel
theorem d41_48 : decode (xcode 41) 48 = .ok (.iload 4, 2) := by decide +kernel
theorem d41_50 : decode (xcode 41) 50 = .ok (.bipush 8, 2) := by decide +kernel
theorem d41_52 : decode (xcode 41) 52 = .ok (.if_icmp .ge 39, 3) := by decide +kernel
theorem d41_55 : decode (xcode 41) 55 = .ok (.aload_n 0, 1) := by decide +kernel
theorem d41_56 : decode (xcode 41) 56 = .ok (.getfield 31, 3) := by decide +kernel
theorem d41_59 : decode (xcode 41) 59 = .ok (.iload 4, 2) := by decide +kernel
theorem d41_61 : decode (xcode 41) 61 = .ok (.iaload, 1) := by decide +kernel
theorem d41_62 : decode (xcode 41) 62 = .ok (.iload_n 3, 1) := by decide +kernel
theorem d41_63 : decode (xcode 41) 63 = .ok (.invokestatic 78, 3) := by decide +kernel
theorem d41_66 : decode (xcode 41) 66 = .ok (.ifCond .eq 19, 3) := by decide +kernel
theorem d41_69 : decode (xcode 41) 69 = .ok (.aload_n 0, 1) := by decide +kernel
theorem d41_70 : decode (xcode 41) 70 = .ok (.getfield 31, 3) := by decide +kernel
theorem d41_73 : decode (xcode 41) 73 = .ok (.iload 4, 2) := by decide +kernel
theorem d41_75 : decode (xcode 41) 75 = .ok (.dup2, 1) := by decide +kernel
theorem d41_76 : decode (xcode 41) 76 = .ok (.iaload, 1) := by decide +kernel
theorem d41_77 : decode (xcode 41) 77 = .ok (.aload_n 0, 1) := by decide +kernel
theorem d41_78 : decode (xcode 41) 78 = .ok (.getfield 31, 3) := by decide +kernel
theorem d41_81 : decode (xcode 41) 81 = .ok (.iload_n 3, 1) := by decide +kernel
theorem d41_82 : decode (xcode 41) 82 = .ok (.iaload, 1) := by decide +kernel
theorem d41_83 : decode (xcode 41) 83 = .ok (.ior, 1) := by decide +kernel
theorem d41_84 : decode (xcode 41) 84 = .ok (.iastore, 1) := by decide +kernel
theorem d41_85 : decode (xcode 41) 85 = .ok (.iinc 4 1, 3) := by decide +kernel
theorem d41_88 : decode (xcode 41) 88 = .ok (.goto (-40), 3) := by decide +kernel
theorem d41_91 : decode (xcode 41) 91 = .ok (.iinc 3 1, 3) := by decide +kernel
theorem d41_94 : decode (xcode 41) 94 = .ok (.goto (-55), 3) := by decide +kernel
theorem d41_97 : decode (xcode 41) 97 = .ok (.iconst 0, 1) := by decide +kernel
theorem d41_98 : decode (xcode 41) 98 = .ok (.istore_n 3, 1) := by decide +kernel
theorem d41_99 : decode (xcode 41) 99 = .ok (.iconst 0, 1) := by decide +kernel
theorem d41_100 : decode (xcode 41) 100 = .ok (.istore 4, 2) := by decide +kernel
theorem d41_102 : decode (xcode 41) 102 = .ok (.iload 4, 2) := by decide +kernel
theorem d41_104 : decode (xcode 41) 104 = .ok (.bipush 8, 2) := by decide +kernel
theorem d41_106 : decode (xcode 41) 106 = .ok (.if_icmp .ge 24, 3) := by decide +kernel
theorem d41_109 : decode (xcode 41) 109 = .ok (.iload_n 3, 1) := by decide +kernel
theorem d41_110 : decode (xcode 41) 110 = .ok (.aload_n 0, 1) := by decide +kernel
theorem d41_111 : decode (xcode 41) 111 = .ok (.getfield 31, 3) := by decide +kernel
theorem d41_114 : decode (xcode 41) 114 = .ok (.iload 4, 2) := by decide +kernel
theorem d41_116 : decode (xcode 41) 116 = .ok (.iaload, 1) := by decide +kernel
theorem d41_117 : decode (xcode 41) 117 = .ok (.iconst 1, 1) := by decide +kernel
theorem d41_118 : decode (xcode 41) 118 = .ok (.iload 4, 2) := by decide +kernel
theorem d41_120 : decode (xcode 41) 120 = .ok (.ishl, 1) := by decide +kernel
theorem d41_121 : decode (xcode 41) 121 = .ok (.iand, 1) := by decide +kernel
theorem d41_122 : decode (xcode 41) 122 = .ok (.ior, 1) := by decide +kernel
theorem d41_123 : decode (xcode 41) 123 = .ok (.istore_n 3, 1) := by decide +kernel
theorem d41_124 : decode (xcode 41) 124 = .ok (.iinc 4 1, 3) := by decide +kernel
theorem d41_127 : decode (xcode 41) 127 = .ok (.goto (-25), 3) := by decide +kernel
theorem d41_130 : decode (xcode 41) 130 = .ok (.iload_n 3, 1) := by decide +kernel
theorem d41_131 : decode (xcode 41) 131 = .ok (.ireturn, 1) := by decide +kernel
noncomputable def f_Sets_ringsAmong_30_s102 (i2 : Nat) (v3 : Int32) (v4 : Int32) (h : xH) : Option ((Int32 × Int32) ⊕ (Int32 × xH)) :=
  if (8 : Int32) ≤ v4 then (
  some (Sum.inr ((v3, h)))) else (
  if xib v4 8 then (
  xlet (v3 ||| ((h.2.2.2.1 28 0 (v4).toNatClampNeg) &&& ((1 : Int32) <<< (v4 &&& 31)))) fun v3_5 =>
  xlet (v4 + (1 : Int32)) fun v4_6 =>
  some (Sum.inl (v3_5, v4_6))) else none)
set_option maxHeartbeats 4000000 in
set_option maxRecDepth 100000 in
theorem f_Sets_ringsAmong_30_s102_ok {g : xG} {l : Launch} {d : Nat} {i2 : Nat} {v3 : Int32} {v4 : Int32} {h : xH} {o : ((Int32 × Int32) ⊕ (Int32 × xH))} {R : Option xV} {H' : xH} (hD : 1 ≤ d) (hf : f_Sets_ringsAmong_30_s102 i2 v3 v4 h = some o) (K1 : ∀ (w3 : Int32) (w4 : Int32), o = Sum.inl (w3, w4) → xEv g l d 41 102 [(0, xr 5 (some 0)), (3, xi w3), (4, xi w4)] [] h R H') (K0 : ∀ (a : Int32) (h1 : xH), o = Sum.inr ((a, h1)) → R = some (xi a) ∧ H' = h1) : xEv g l d 41 102 [(0, xr 5 (some 0)), (3, xi v3), (4, xi v4)] [] h R H' := by
  unfold f_Sets_ringsAmong_30_s102 at hf
  refine xs_iload d41_102 rfl ?_
  refine xs_bipush (v := 8) d41_104 (by decide) ?_
  rcases lk_if hf with ⟨hc3, hf⟩ | ⟨hc3, hf⟩
  · refine xs_icmp_ge (tgt := 130) d41_106 (by decide) (fun _ => ?_) (fun hn => absurd hc3 hn)
    refine xs_iload_n d41_130 rfl ?_
    obtain ⟨eR, eH⟩ := K0 _ _ (Option.some.inj hf).symm
    subst eR; subst eH
    exact xs_iret d41_131 rt41
  · refine xs_icmp_ge (tgt := 130) d41_106 (by decide) (fun hp => absurd hp hc3) (fun _ => ?_)
    refine xs_iload_n d41_109 rfl ?_
    refine xs_aload_n d41_110 rfl ?_
    refine xe_getc (j := 0) d41_111 ky41 fl139 fk5_13 rfl ?_
    refine xs_iload d41_114 rfl ?_
    obtain ⟨hin4, hf⟩ := lk_g hf
    refine xe_iald d41_116 (by decide) ak28 hin4 ?_
    refine xs_iconst (v := 1) d41_117 (by decide) ?_
    refine xs_iload d41_118 rfl ?_
    refine xs_ishl d41_120 ?_
    refine xs_iand d41_121 ?_
    refine xs_ior d41_122 ?_
    obtain ⟨v3_5, ev3_5, hf⟩ := lk_let hf
    refine xe_istore_n (v := v3_5) (ls2 := [(0, xr 5 (some 0)), (3, xi v3_5), (4, xi v4)]) d41_123 mx41 (by decide) ev3_5 rfl ?_
    obtain ⟨v4_6, ev4_6, hf⟩ := lk_let hf
    refine xe_iinc (v := v4_6) (b := 1) (ls2 := [(0, xr 5 (some 0)), (3, xi v3_5), (4, xi v4_6)]) d41_124 mx41 (by decide) rfl (by decide) ev4_6 rfl ?_
    refine xs_goto (tgt := 102) d41_127 (by decide) ?_
    exact K1 _ _ (Option.some.inj hf).symm
noncomputable def f_Sets_ringsAmong_30_l102 (i2 : Nat) (v3 : Int32) (v4 : Int32) (h : xH) : Option (Int32 × xH) :=
  whl (fun s => f_Sets_ringsAmong_30_s102 i2 s.1 s.2 h) (v3, v4)
theorem f_Sets_ringsAmong_30_l102_ok {g : xG} {l : Launch} {d : Nat} {i2 : Nat} {v3 : Int32} {v4 : Int32} {h : xH} {o : (Int32 × xH)} {R : Option xV} {H' : xH} (hD : 1 ≤ d) (hf : f_Sets_ringsAmong_30_l102 i2 v3 v4 h = some o) (K0 : ∀ (a : Int32) (h1 : xH), o = (a, h1) → R = some (xi a) ∧ H' = h1) : xEv g l d 41 102 [(0, xr 5 (some 0)), (3, xi v3), (4, xi v4)] [] h R H' := by
  obtain ⟨n, hn⟩ := whl_iff.mp hf
  clear hf
  induction n generalizing v3 v4 with
  | zero => cases hn
  | succ n ih =>
    obtain ⟨o2, hs, hn⟩ := lk_b (show (f_Sets_ringsAmong_30_s102 i2 v3 v4 h).bind (fun o => Sum.elim (itn _ n) some o) = some o from hn)
    exact f_Sets_ringsAmong_30_s102_ok hD hs (fun u0 u1 e => ih (by rw [e] at hn; exact hn)) (fun u0 u1 e => K0 u0 u1 (by rw [e] at hn; exact (Option.some.inj hn).symm))
noncomputable def f_Sets_ringsAmong_30_b97 (i2 : Nat) (h : xH) : Option (Int32 × xH) :=
  f_Sets_ringsAmong_30_l102 i2 (0 : Int32) (0 : Int32) h
set_option maxHeartbeats 4000000 in
set_option maxRecDepth 100000 in
theorem f_Sets_ringsAmong_30_b97_ok {g : xG} {l : Launch} {d : Nat} {i2 : Nat} {h : xH} {o : (Int32 × xH)} {R : Option xV} {H' : xH} (hD : 1 ≤ d) (hf : f_Sets_ringsAmong_30_b97 i2 h = some o) (K0 : ∀ (a : Int32) (h1 : xH), o = (a, h1) → R = some (xi a) ∧ H' = h1) : xEv g l d 41 97 [(0, xr 5 (some 0))] [] h R H' := by
  unfold f_Sets_ringsAmong_30_b97 at hf
  refine xs_iconst (v := 0) d41_97 (by decide) ?_
  refine xe_istore_n (v := (0 : Int32)) (ls2 := [(0, xr 5 (some 0)), (3, xi (0 : Int32))]) d41_98 mx41 (by decide) rfl rfl ?_
  refine xs_iconst (v := 0) d41_99 (by decide) ?_
  refine xe_istore (v := (0 : Int32)) (ls2 := [(0, xr 5 (some 0)), (3, xi (0 : Int32)), (4, xi (0 : Int32))]) d41_100 mx41 (by decide) rfl rfl ?_
  exact f_Sets_ringsAmong_30_l102_ok hD hf K0
noncomputable def f_Sets_ringsAmong_30_b91 (i2 : Nat) (v3 : Int32) (h : xH) : Option ((Int32 × xH) ⊕ (Int32 × xH)) :=
  xlet (v3 + (1 : Int32)) fun v3_8 =>
  some (Sum.inl (v3_8, h))
set_option maxHeartbeats 4000000 in
set_option maxRecDepth 100000 in
theorem f_Sets_ringsAmong_30_b91_ok {g : xG} {l : Launch} {d : Nat} {i2 : Nat} {v3 : Int32} {h : xH} {o : ((Int32 × xH) ⊕ (Int32 × xH))} {R : Option xV} {H' : xH} (hD : 1 ≤ d) (hf : f_Sets_ringsAmong_30_b91 i2 v3 h = some o) (K1 : ∀ (w3 : Int32) (h1 : xH), o = Sum.inl (w3, h1) → xEv g l d 41 39 [(0, xr 5 (some 0)), (3, xi w3)] [] h1 R H') (K0 : ∀ (a : Int32) (h1 : xH), o = Sum.inr ((a, h1)) → R = some (xi a) ∧ H' = h1) : xEv g l d 41 91 [(0, xr 5 (some 0)), (3, xi v3)] [] h R H' := by
  unfold f_Sets_ringsAmong_30_b91 at hf
  obtain ⟨v3_8, ev3_8, hf⟩ := lk_let hf
  refine xe_iinc (v := v3_8) (b := 1) (ls2 := [(0, xr 5 (some 0)), (3, xi v3_8)]) d41_91 mx41 (by decide) rfl (by decide) ev3_8 rfl ?_
  refine xs_goto (tgt := 39) d41_94 (by decide) ?_
  exact K1 _ _ (Option.some.inj hf).symm
noncomputable def f_Sets_ringsAmong_30_b85 (i2 : Nat) (v3 : Int32) (v4 : Int32) (h : xH) : Option ((Int32 × xH) ⊕ ((Int32 × xH) ⊕ (Int32 × xH))) :=
  xlet (v4 + (1 : Int32)) fun v4_13 =>
  some (Sum.inl (v4_13, h))
set_option maxHeartbeats 4000000 in
set_option maxRecDepth 100000 in
theorem f_Sets_ringsAmong_30_b85_ok {g : xG} {l : Launch} {d : Nat} {i2 : Nat} {v3 : Int32} {v4 : Int32} {h : xH} {o : ((Int32 × xH) ⊕ ((Int32 × xH) ⊕ (Int32 × xH)))} {R : Option xV} {H' : xH} (hD : 1 ≤ d) (hf : f_Sets_ringsAmong_30_b85 i2 v3 v4 h = some o) (K1 : ∀ (w3 : Int32) (h1 : xH), o = Sum.inr (Sum.inl (w3, h1)) → xEv g l d 41 39 [(0, xr 5 (some 0)), (3, xi w3)] [] h1 R H') (K2 : ∀ (w4 : Int32) (h1 : xH), o = Sum.inl (w4, h1) → xEv g l d 41 48 [(0, xr 5 (some 0)), (3, xi v3), (4, xi w4)] [] h1 R H') (K0 : ∀ (a : Int32) (h1 : xH), o = Sum.inr (Sum.inr ((a, h1))) → R = some (xi a) ∧ H' = h1) : xEv g l d 41 85 [(0, xr 5 (some 0)), (3, xi v3), (4, xi v4)] [] h R H' := by
  unfold f_Sets_ringsAmong_30_b85 at hf
  obtain ⟨v4_13, ev4_13, hf⟩ := lk_let hf
  refine xe_iinc (v := v4_13) (b := 1) (ls2 := [(0, xr 5 (some 0)), (3, xi v3), (4, xi v4_13)]) d41_85 mx41 (by decide) rfl (by decide) ev4_13 rfl ?_
  refine xs_goto (tgt := 48) d41_88 (by decide) ?_
  exact K2 _ _ (Option.some.inj hf).symm
noncomputable def f_Sets_ringsAmong_30_s48 (i2 : Nat) (v3 : Int32) (v4 : Int32) (h : xH) : Option ((Int32 × xH) ⊕ ((Int32 × xH) ⊕ (Int32 × xH))) :=
  if (8 : Int32) ≤ v4 then (
  xup (f_Sets_ringsAmong_30_b91 i2 v3 h)) else (
  if xib v4 8 then (
  (f_Sets_has (h.2.2.2.1 28 0 (v4).toNatClampNeg) v3 h).bind fun r10 =>
  if r10 = (0 : Int32) then (
  f_Sets_ringsAmong_30_b85 i2 v3 v4 h) else (
  if xib v4 8 then (
  if xib v3 8 then (
  if xib v4 8 then (
  xlet (xsA h 28 0 (upd (h.2.2.2.1 28 0) (v4).toNatClampNeg ((h.2.2.2.1 28 0 (v4).toNatClampNeg) ||| (h.2.2.2.1 28 0 (v3).toNatClampNeg)))) fun h17 =>
  f_Sets_ringsAmong_30_b85 i2 v3 v4 h17) else none) else none) else none)) else none)
set_option maxHeartbeats 4000000 in
set_option maxRecDepth 100000 in
theorem f_Sets_ringsAmong_30_s48_ok {g : xG} {l : Launch} {d : Nat} {i2 : Nat} {v3 : Int32} {v4 : Int32} {h : xH} {o : ((Int32 × xH) ⊕ ((Int32 × xH) ⊕ (Int32 × xH)))} {R : Option xV} {H' : xH} (hD : 1 ≤ d) (hf : f_Sets_ringsAmong_30_s48 i2 v3 v4 h = some o) (K1 : ∀ (w3 : Int32) (h1 : xH), o = Sum.inr (Sum.inl (w3, h1)) → xEv g l d 41 39 [(0, xr 5 (some 0)), (3, xi w3)] [] h1 R H') (K2 : ∀ (w4 : Int32) (h1 : xH), o = Sum.inl (w4, h1) → xEv g l d 41 48 [(0, xr 5 (some 0)), (3, xi v3), (4, xi w4)] [] h1 R H') (K0 : ∀ (a : Int32) (h1 : xH), o = Sum.inr (Sum.inr ((a, h1))) → R = some (xi a) ∧ H' = h1) : xEv g l d 41 48 [(0, xr 5 (some 0)), (3, xi v3), (4, xi v4)] [] h R H' := by
  unfold f_Sets_ringsAmong_30_s48 at hf
  refine xs_iload d41_48 rfl ?_
  refine xs_bipush (v := 8) d41_50 (by decide) ?_
  rcases lk_if hf with ⟨hc7, hf⟩ | ⟨hc7, hf⟩
  · refine xs_icmp_ge (tgt := 91) d41_52 (by decide) (fun _ => ?_) (fun hn => absurd hc7 hn)
    refine xs_pick [0, 1] rfl ?_
    obtain ⟨x0, hf, ex0⟩ := lk_up hf
    exact f_Sets_ringsAmong_30_b91_ok hD hf (fun u0 u1 e => K1 u0 u1 (ex0.trans (congrArg Sum.inr e))) (fun u0 u1 e => K0 u0 u1 (ex0.trans (congrArg Sum.inr e)))
  · refine xs_icmp_ge (tgt := 91) d41_52 (by decide) (fun hp => absurd hp hc7) (fun _ => ?_)
    refine xs_aload_n d41_55 rfl ?_
    refine xe_getc (j := 0) d41_56 ky41 fl139 fk5_13 rfl ?_
    refine xs_iload d41_59 rfl ?_
    obtain ⟨hin9, hf⟩ := lk_g hf
    refine xe_iald d41_61 (by decide) ak28 hin9 ?_
    refine xs_iload_n d41_62 rfl ?_
    obtain ⟨r10, hc11, hf⟩ := lk_b hf
    refine xe_calls1 (as := [xi (h.2.2.2.1 28 0 (v4).toNatClampNeg), xi v3]) (st := []) (h2 := h) (d2 := d - 1) d41_63 ky41 ml118 st28 rfl na28 (Nat.le_of_ble_eq_true rfl) (by omega) (f_Sets_has_ok (by omega) hc11) ?_
    rcases lk_if hf with ⟨hc12, hf⟩ | ⟨hc12, hf⟩
    · refine xs_if_eq (tgt := 85) d41_66 (by decide) (fun _ => ?_) (fun hn => absurd hc12 hn)
      exact f_Sets_ringsAmong_30_b85_ok hD hf K1 K2 K0
    · refine xs_if_eq (tgt := 85) d41_66 (by decide) (fun hp => absurd hp hc12) (fun _ => ?_)
      refine xs_aload_n d41_69 rfl ?_
      refine xe_getc (j := 0) d41_70 ky41 fl139 fk5_13 rfl ?_
      refine xs_iload d41_73 rfl ?_
      refine xs_dup2 d41_75 rfl rfl ?_
      obtain ⟨hin14, hf⟩ := lk_g hf
      refine xe_iald d41_76 (by decide) ak28 hin14 ?_
      refine xs_aload_n d41_77 rfl ?_
      refine xe_getc (j := 0) d41_78 ky41 fl139 fk5_13 rfl ?_
      refine xs_iload_n d41_81 rfl ?_
      obtain ⟨hin15, hf⟩ := lk_g hf
      refine xe_iald d41_82 (by decide) ak28 hin15 ?_
      refine xs_ior d41_83 ?_
      obtain ⟨hin16, hf⟩ := lk_g hf
      obtain ⟨h17, eh17, hf⟩ := lk_let hf
      refine xe_iast d41_84 (by decide) ak28 hin16  eh17 ?_
      exact f_Sets_ringsAmong_30_b85_ok hD hf K1 K2 K0
noncomputable def f_Sets_ringsAmong_30_l48 (i2 : Nat) (v3 : Int32) (v4 : Int32) (h : xH) : Option ((Int32 × xH) ⊕ (Int32 × xH)) :=
  whl (fun s => f_Sets_ringsAmong_30_s48 i2 v3 s.1 s.2) (v4, h)
theorem f_Sets_ringsAmong_30_l48_ok {g : xG} {l : Launch} {d : Nat} {i2 : Nat} {v3 : Int32} {v4 : Int32} {h : xH} {o : ((Int32 × xH) ⊕ (Int32 × xH))} {R : Option xV} {H' : xH} (hD : 1 ≤ d) (hf : f_Sets_ringsAmong_30_l48 i2 v3 v4 h = some o) (K1 : ∀ (w3 : Int32) (h1 : xH), o = Sum.inl (w3, h1) → xEv g l d 41 39 [(0, xr 5 (some 0)), (3, xi w3)] [] h1 R H') (K0 : ∀ (a : Int32) (h1 : xH), o = Sum.inr ((a, h1)) → R = some (xi a) ∧ H' = h1) : xEv g l d 41 48 [(0, xr 5 (some 0)), (3, xi v3), (4, xi v4)] [] h R H' := by
  obtain ⟨n, hn⟩ := whl_iff.mp hf
  clear hf
  induction n generalizing v4 h with
  | zero => cases hn
  | succ n ih =>
    obtain ⟨o2, hs, hn⟩ := lk_b (show (f_Sets_ringsAmong_30_s48 i2 v3 v4 h).bind (fun o => Sum.elim (itn _ n) some o) = some o from hn)
    exact f_Sets_ringsAmong_30_s48_ok hD hs (fun u0 u1 e => K1 u0 u1 (by rw [e] at hn; exact (Option.some.inj hn).symm)) (fun u0 u1 e => ih (by rw [e] at hn; exact hn)) (fun u0 u1 e => K0 u0 u1 (by rw [e] at hn; exact (Option.some.inj hn).symm))
noncomputable def f_Sets_ringsAmong_30_s39 (i2 : Nat) (v3 : Int32) (h : xH) : Option ((Int32 × xH) ⊕ (Int32 × xH)) :=
  if (8 : Int32) ≤ v3 then (
  xup (f_Sets_ringsAmong_30_b97 i2 h)) else (
  f_Sets_ringsAmong_30_l48 i2 v3 (0 : Int32) h)
set_option maxHeartbeats 4000000 in
set_option maxRecDepth 100000 in
theorem f_Sets_ringsAmong_30_s39_ok {g : xG} {l : Launch} {d : Nat} {i2 : Nat} {v3 : Int32} {h : xH} {o : ((Int32 × xH) ⊕ (Int32 × xH))} {R : Option xV} {H' : xH} (hD : 1 ≤ d) (hf : f_Sets_ringsAmong_30_s39 i2 v3 h = some o) (K1 : ∀ (w3 : Int32) (h1 : xH), o = Sum.inl (w3, h1) → xEv g l d 41 39 [(0, xr 5 (some 0)), (3, xi w3)] [] h1 R H') (K0 : ∀ (a : Int32) (h1 : xH), o = Sum.inr ((a, h1)) → R = some (xi a) ∧ H' = h1) : xEv g l d 41 39 [(0, xr 5 (some 0)), (3, xi v3)] [] h R H' := by
  unfold f_Sets_ringsAmong_30_s39 at hf
  refine xs_iload_n d41_39 rfl ?_
  refine xs_bipush (v := 8) d41_40 (by decide) ?_
  rcases lk_if hf with ⟨hc2, hf⟩ | ⟨hc2, hf⟩
  · refine xs_icmp_ge (tgt := 97) d41_42 (by decide) (fun _ => ?_) (fun hn => absurd hc2 hn)
    refine xs_pick [0] rfl ?_
    obtain ⟨x0, hf, ex0⟩ := lk_up hf
    exact f_Sets_ringsAmong_30_b97_ok hD hf (fun u0 u1 e => K0 u0 u1 (ex0.trans (congrArg Sum.inr e)))
  · refine xs_icmp_ge (tgt := 97) d41_42 (by decide) (fun hp => absurd hp hc2) (fun _ => ?_)
    refine xs_iconst (v := 0) d41_45 (by decide) ?_
    refine xe_istore (v := (0 : Int32)) (ls2 := [(0, xr 5 (some 0)), (3, xi v3), (4, xi (0 : Int32))]) d41_46 mx41 (by decide) rfl rfl ?_
    exact f_Sets_ringsAmong_30_l48_ok hD hf K1 K0
noncomputable def f_Sets_ringsAmong_30_l39 (i2 : Nat) (v3 : Int32) (h : xH) : Option (Int32 × xH) :=
  whl (fun s => f_Sets_ringsAmong_30_s39 i2 s.1 s.2) (v3, h)
theorem f_Sets_ringsAmong_30_l39_ok {g : xG} {l : Launch} {d : Nat} {i2 : Nat} {v3 : Int32} {h : xH} {o : (Int32 × xH)} {R : Option xV} {H' : xH} (hD : 1 ≤ d) (hf : f_Sets_ringsAmong_30_l39 i2 v3 h = some o) (K0 : ∀ (a : Int32) (h1 : xH), o = (a, h1) → R = some (xi a) ∧ H' = h1) : xEv g l d 41 39 [(0, xr 5 (some 0)), (3, xi v3)] [] h R H' := by
  obtain ⟨n, hn⟩ := whl_iff.mp hf
  clear hf
  induction n generalizing v3 h with
  | zero => cases hn
  | succ n ih =>
    obtain ⟨o2, hs, hn⟩ := lk_b (show (f_Sets_ringsAmong_30_s39 i2 v3 h).bind (fun o => Sum.elim (itn _ n) some o) = some o from hn)
    exact f_Sets_ringsAmong_30_s39_ok hD hs (fun u0 u1 e => ih (by rw [e] at hn; exact hn)) (fun u0 u1 e => K0 u0 u1 (by rw [e] at hn; exact (Option.some.inj hn).symm))
noncomputable def f_Sets_ringsAmong_30_b37 (i2 : Nat) (h : xH) : Option (Int32 × xH) :=
  f_Sets_ringsAmong_30_l39 i2 (0 : Int32) h
set_option maxHeartbeats 4000000 in
set_option maxRecDepth 100000 in
theorem f_Sets_ringsAmong_30_b37_ok {g : xG} {l : Launch} {d : Nat} {i2 : Nat} {h : xH} {o : (Int32 × xH)} {R : Option xV} {H' : xH} (hD : 1 ≤ d) (hf : f_Sets_ringsAmong_30_b37 i2 h = some o) (K0 : ∀ (a : Int32) (h1 : xH), o = (a, h1) → R = some (xi a) ∧ H' = h1) : xEv g l d 41 37 [(0, xr 5 (some 0))] [] h R H' := by
  unfold f_Sets_ringsAmong_30_b37 at hf
  refine xs_iconst (v := 0) d41_37 (by decide) ?_
  refine xe_istore_n (v := (0 : Int32)) (ls2 := [(0, xr 5 (some 0)), (3, xi (0 : Int32))]) d41_38 mx41 (by decide) rfl rfl ?_
  exact f_Sets_ringsAmong_30_l39_ok hD hf K0
noncomputable def f_Sets_ringsAmong_30_b30 (i2 : Nat) (v1 : Int32) (v3 : Int32) (t0 : Int32) (t1 : Int32) (h : xH) : Option ((Int32 × xH) ⊕ (Int32 × xH)) :=
  if xib t1 8 then (
  xlet (xsA h 28 0 (upd (h.2.2.2.1 28 0) (t1).toNatClampNeg t0)) fun h22 =>
  xlet (v3 + (1 : Int32)) fun v3_23 =>
  some (Sum.inl (v3_23, h22))) else none
set_option maxHeartbeats 4000000 in
set_option maxRecDepth 100000 in
theorem f_Sets_ringsAmong_30_b30_ok {g : xG} {l : Launch} {d : Nat} {i2 : Nat} {v1 : Int32} {v3 : Int32} {t0 : Int32} {t1 : Int32} {h : xH} {o : ((Int32 × xH) ⊕ (Int32 × xH))} {R : Option xV} {H' : xH} (hD : 1 ≤ d) (hf : f_Sets_ringsAmong_30_b30 i2 v1 v3 t0 t1 h = some o) (K1 : ∀ (w3 : Int32) (h1 : xH), o = Sum.inl (w3, h1) → xEv g l d 41 2 [(0, xr 5 (some 0)), (1, xi v1), (2, xr 30 (some i2)), (3, xi w3)] [] h1 R H') (K0 : ∀ (a : Int32) (h1 : xH), o = Sum.inr ((a, h1)) → R = some (xi a) ∧ H' = h1) : xEv g l d 41 30 [(0, xr 5 (some 0)), (1, xi v1), (2, xr 30 (some i2)), (3, xi v3)] [xi t0, xi t1, xr 28 (some 0)] h R H' := by
  unfold f_Sets_ringsAmong_30_b30 at hf
  obtain ⟨hin21, hf⟩ := lk_g hf
  obtain ⟨h22, eh22, hf⟩ := lk_let hf
  refine xe_iast d41_30 (by decide) ak28 hin21  eh22 ?_
  obtain ⟨v3_23, ev3_23, hf⟩ := lk_let hf
  refine xe_iinc (v := v3_23) (b := 1) (ls2 := [(0, xr 5 (some 0)), (1, xi v1), (2, xr 30 (some i2)), (3, xi v3_23)]) d41_31 mx41 (by decide) rfl (by decide) ev3_23 rfl ?_
  refine xs_goto (tgt := 2) d41_34 (by decide) ?_
  exact K1 _ _ (Option.some.inj hf).symm
noncomputable def f_Sets_ringsAmong_30_s2 (i2 : Nat) (v1 : Int32) (v3 : Int32) (h : xH) : Option ((Int32 × xH) ⊕ (Int32 × xH)) :=
  if (8 : Int32) ≤ v3 then (
  xup (f_Sets_ringsAmong_30_b37 i2 h)) else (
  (f_Sets_has v1 v3 h).bind fun r18 =>
  if r18 = (0 : Int32) then (
  f_Sets_ringsAmong_30_b30 i2 v1 v3 (0 : Int32) v3 h) else (
  if xib v3 8 then (
  f_Sets_ringsAmong_30_b30 i2 v1 v3 ((h.2.2.2.1 30 i2 (v3).toNatClampNeg) &&& v1) v3 h) else none))
set_option maxHeartbeats 4000000 in
set_option maxRecDepth 100000 in
theorem f_Sets_ringsAmong_30_s2_ok {g : xG} {l : Launch} {d : Nat} {i2 : Nat} {v1 : Int32} {v3 : Int32} {h : xH} {o : ((Int32 × xH) ⊕ (Int32 × xH))} {R : Option xV} {H' : xH} (hD : 1 ≤ d) (hf : f_Sets_ringsAmong_30_s2 i2 v1 v3 h = some o) (K1 : ∀ (w3 : Int32) (h1 : xH), o = Sum.inl (w3, h1) → xEv g l d 41 2 [(0, xr 5 (some 0)), (1, xi v1), (2, xr 30 (some i2)), (3, xi w3)] [] h1 R H') (K0 : ∀ (a : Int32) (h1 : xH), o = Sum.inr ((a, h1)) → R = some (xi a) ∧ H' = h1) : xEv g l d 41 2 [(0, xr 5 (some 0)), (1, xi v1), (2, xr 30 (some i2)), (3, xi v3)] [] h R H' := by
  unfold f_Sets_ringsAmong_30_s2 at hf
  refine xs_iload_n d41_2 rfl ?_
  refine xs_bipush (v := 8) d41_3 (by decide) ?_
  rcases lk_if hf with ⟨hc1, hf⟩ | ⟨hc1, hf⟩
  · refine xs_icmp_ge (tgt := 37) d41_5 (by decide) (fun _ => ?_) (fun hn => absurd hc1 hn)
    refine xs_pick [0] rfl ?_
    obtain ⟨x0, hf, ex0⟩ := lk_up hf
    exact f_Sets_ringsAmong_30_b37_ok hD hf (fun u0 u1 e => K0 u0 u1 (ex0.trans (congrArg Sum.inr e)))
  · refine xs_icmp_ge (tgt := 37) d41_5 (by decide) (fun hp => absurd hp hc1) (fun _ => ?_)
    refine xs_aload_n d41_8 rfl ?_
    refine xe_getc (j := 0) d41_9 ky41 fl139 fk5_13 rfl ?_
    refine xs_iload_n d41_12 rfl ?_
    refine xs_iload_n d41_13 rfl ?_
    refine xs_iload_n d41_14 rfl ?_
    obtain ⟨r18, hc19, hf⟩ := lk_b hf
    refine xe_calls1 (as := [xi v1, xi v3]) (st := [xi v3, xr 28 (some 0)]) (h2 := h) (d2 := d - 1) d41_15 ky41 ml118 st28 rfl na28 (Nat.le_of_ble_eq_true rfl) (by omega) (f_Sets_has_ok (by omega) hc19) ?_
    rcases lk_if hf with ⟨hc20, hf⟩ | ⟨hc20, hf⟩
    · refine xs_if_eq (tgt := 29) d41_18 (by decide) (fun _ => ?_) (fun hn => absurd hc20 hn)
      refine xs_iconst (v := 0) d41_29 (by decide) ?_
      exact f_Sets_ringsAmong_30_b30_ok hD hf K1 K0
    · refine xs_if_eq (tgt := 29) d41_18 (by decide) (fun hp => absurd hp hc20) (fun _ => ?_)
      refine xs_aload_n d41_21 rfl ?_
      refine xs_iload_n d41_22 rfl ?_
      obtain ⟨hin24, hf⟩ := lk_g hf
      refine xe_iald d41_23 (by decide) ak30 hin24 ?_
      refine xs_iload_n d41_24 rfl ?_
      refine xs_iand d41_25 ?_
      refine xs_goto (tgt := 30) d41_26 (by decide) ?_
      exact f_Sets_ringsAmong_30_b30_ok hD hf K1 K0
noncomputable def f_Sets_ringsAmong_30_l2 (i2 : Nat) (v1 : Int32) (v3 : Int32) (h : xH) : Option (Int32 × xH) :=
  whl (fun s => f_Sets_ringsAmong_30_s2 i2 v1 s.1 s.2) (v3, h)
theorem f_Sets_ringsAmong_30_l2_ok {g : xG} {l : Launch} {d : Nat} {i2 : Nat} {v1 : Int32} {v3 : Int32} {h : xH} {o : (Int32 × xH)} {R : Option xV} {H' : xH} (hD : 1 ≤ d) (hf : f_Sets_ringsAmong_30_l2 i2 v1 v3 h = some o) (K0 : ∀ (a : Int32) (h1 : xH), o = (a, h1) → R = some (xi a) ∧ H' = h1) : xEv g l d 41 2 [(0, xr 5 (some 0)), (1, xi v1), (2, xr 30 (some i2)), (3, xi v3)] [] h R H' := by
  obtain ⟨n, hn⟩ := whl_iff.mp hf
  clear hf
  induction n generalizing v3 h with
  | zero => cases hn
  | succ n ih =>
    obtain ⟨o2, hs, hn⟩ := lk_b (show (f_Sets_ringsAmong_30_s2 i2 v1 v3 h).bind (fun o => Sum.elim (itn _ n) some o) = some o from hn)
    exact f_Sets_ringsAmong_30_s2_ok hD hs (fun u0 u1 e => ih (by rw [e] at hn; exact hn)) (fun u0 u1 e => K0 u0 u1 (by rw [e] at hn; exact (Option.some.inj hn).symm))
noncomputable def f_Sets_ringsAmong_30_e (i2 : Nat) (v1 : Int32) (h : xH) : Option (Int32 × xH) :=
  f_Sets_ringsAmong_30_l2 i2 v1 (0 : Int32) h
set_option maxHeartbeats 4000000 in
set_option maxRecDepth 100000 in
theorem f_Sets_ringsAmong_30_e_ok {g : xG} {l : Launch} {d : Nat} {i2 : Nat} {v1 : Int32} {h : xH} {o : (Int32 × xH)} {R : Option xV} {H' : xH} (hD : 1 ≤ d) (hf : f_Sets_ringsAmong_30_e i2 v1 h = some o) (K0 : ∀ (a : Int32) (h1 : xH), o = (a, h1) → R = some (xi a) ∧ H' = h1) : xEv g l d 41 0 [(0, xr 5 (some 0)), (1, xi v1), (2, xr 30 (some i2))] [] h R H' := by
  unfold f_Sets_ringsAmong_30_e at hf
  refine xs_iconst (v := 0) d41_0 (by decide) ?_
  refine xe_istore_n (v := (0 : Int32)) (ls2 := [(0, xr 5 (some 0)), (1, xi v1), (2, xr 30 (some i2)), (3, xi (0 : Int32))]) d41_1 mx41 (by decide) rfl rfl ?_
  exact f_Sets_ringsAmong_30_l2_ok hD hf K0
noncomputable def f_Sets_ringsAmong_30 (v1 : Int32) (i2 : Nat) (h : xH) : Option (Int32 × xH) := f_Sets_ringsAmong_30_e i2 v1 h
theorem f_Sets_ringsAmong_30_ok {g : xG} {l : Launch} {d : Nat} {v1 : Int32} {i2 : Nat} {h : xH} {r : Int32} {h1 : xH} (hD : 1 ≤ d) (hf : f_Sets_ringsAmong_30 v1 i2 h = some (r, h1)) : xC g l d 41 [xr 5 (some 0), xi v1, xr 30 (some i2)] h (some (xi r)) h1 :=
  xC_of2 (by decide) mx41 (Nat.le_of_ble_eq_true rfl) (f_Sets_ringsAmong_30_e_ok hD hf (fun _ _ e => by cases e; exact ⟨rfl, rfl⟩))
theorem d42_0 : decode (xcode 42) 0 = .ok (.aload_n 1, 1) := by decide +kernel
theorem d42_1 : decode (xcode 42) 1 = .ok (.getfield 68, 3) := by decide +kernel
theorem d42_4 : decode (xcode 42) 4 = .ok (.istore_n 2, 1) := by decide +kernel
theorem d42_5 : decode (xcode 42) 5 = .ok (.iconst 0, 1) := by decide +kernel
theorem d42_6 : decode (xcode 42) 6 = .ok (.istore_n 3, 1) := by decide +kernel
theorem d42_7 : decode (xcode 42) 7 = .ok (.iload_n 3, 1) := by decide +kernel
theorem d42_8 : decode (xcode 42) 8 = .ok (.sipush 256, 3) := by decide +kernel
theorem d42_11 : decode (xcode 42) 11 = .ok (.if_icmp .ge 64, 3) := by decide +kernel
theorem d42_14 : decode (xcode 42) 14 = .ok (.iload_n 3, 1) := by decide +kernel
theorem d42_15 : decode (xcode 42) 15 = .ok (.aload_n 1, 1) := by decide +kernel
theorem d42_16 : decode (xcode 42) 16 = .ok (.getfield 68, 3) := by decide +kernel
theorem d42_19 : decode (xcode 42) 19 = .ok (.iconst (-1), 1) := by decide +kernel
theorem d42_20 : decode (xcode 42) 20 = .ok (.ixor, 1) := by decide +kernel
theorem d42_21 : decode (xcode 42) 21 = .ok (.iand, 1) := by decide +kernel
theorem d42_22 : decode (xcode 42) 22 = .ok (.ifCond .ne 18, 3) := by decide +kernel
theorem d42_25 : decode (xcode 42) 25 = .ok (.iload_n 3, 1) := by decide +kernel
theorem d42_26 : decode (xcode 42) 26 = .ok (.invokestatic 122, 3) := by decide +kernel
theorem d42_29 : decode (xcode 42) 29 = .ok (.iload_n 2, 1) := by decide +kernel
theorem d42_30 : decode (xcode 42) 30 = .ok (.invokestatic 122, 3) := by decide +kernel
theorem d42_33 : decode (xcode 42) 33 = .ok (.if_icmp .ge 7, 3) := by decide +kernel
theorem d42_36 : decode (xcode 42) 36 = .ok (.iconst 1, 1) := by decide +kernel
theorem d42_37 : decode (xcode 42) 37 = .ok (.goto 4, 3) := by decide +kernel
theorem d42_40 : decode (xcode 42) 40 = .ok (.iconst 0, 1) := by decide +kernel
theorem d42_41 : decode (xcode 42) 41 = .ok (.istore 4, 2) := by decide +kernel
theorem d42_43 : decode (xcode 42) 43 = .ok (.iload 4, 2) := by decide +kernel
theorem d42_45 : decode (xcode 42) 45 = .ok (.ifCond .eq 24, 3) := by decide +kernel
theorem d42_48 : decode (xcode 42) 48 = .ok (.aload_n 0, 1) := by decide +kernel
theorem d42_49 : decode (xcode 42) 49 = .ok (.aload_n 1, 1) := by decide +kernel
theorem d42_50 : decode (xcode 42) 50 = .ok (.getfield 68, 3) := by decide +kernel
theorem d42_53 : decode (xcode 42) 53 = .ok (.iload_n 3, 1) := by decide +kernel
theorem d42_54 : decode (xcode 42) 54 = .ok (.iconst (-1), 1) := by decide +kernel
theorem d42_55 : decode (xcode 42) 55 = .ok (.ixor, 1) := by decide +kernel
theorem d42_56 : decode (xcode 42) 56 = .ok (.iand, 1) := by decide +kernel
theorem d42_57 : decode (xcode 42) 57 = .ok (.aload_n 1, 1) := by decide +kernel
theorem d42_58 : decode (xcode 42) 58 = .ok (.getfield 82, 3) := by decide +kernel
theorem d42_61 : decode (xcode 42) 61 = .ok (.invokevirtual 125, 3) := by decide +kernel
theorem d42_64 : decode (xcode 42) 64 = .ok (.ifCond .ne 5, 3) := by decide +kernel
theorem d42_67 : decode (xcode 42) 67 = .ok (.iload_n 3, 1) := by decide +kernel
theorem d42_68 : decode (xcode 42) 68 = .ok (.istore_n 2, 1) := by decide +kernel
theorem d42_69 : decode (xcode 42) 69 = .ok (.iinc 3 1, 3) := by decide +kernel
theorem d42_72 : decode (xcode 42) 72 = .ok (.goto (-65), 3) := by decide +kernel
theorem d42_75 : decode (xcode 42) 75 = .ok (.iload_n 2, 1) := by decide +kernel
theorem d42_76 : decode (xcode 42) 76 = .ok (.ireturn, 1) := by decide +kernel
noncomputable def f_Sets_fewestForNoRings_b69 (i1 : Nat) (v2 : Int32) (v3 : Int32) (h : xH) : Option ((Int32 × Int32 × xH) ⊕ (Int32 × xH)) :=
  xlet (v3 + (1 : Int32)) fun v3_10 =>
  some (Sum.inl (v2, v3_10, h))
set_option maxHeartbeats 4000000 in
set_option maxRecDepth 100000 in
theorem f_Sets_fewestForNoRings_b69_ok {g : xG} {l : Launch} {d : Nat} {i1 : Nat} {v2 : Int32} {v3 : Int32} {h : xH} {o : ((Int32 × Int32 × xH) ⊕ (Int32 × xH))} {R : Option xV} {H' : xH} (hD : 2 ≤ d) (hf : f_Sets_fewestForNoRings_b69 i1 v2 v3 h = some o) (K1 : ∀ (w2 : Int32) (w3 : Int32) (h1 : xH), o = Sum.inl (w2, w3, h1) → xEv g l d 42 7 [(0, xr 5 (some 0)), (1, xr 6 (some i1)), (2, xi w2), (3, xi w3)] [] h1 R H') (K0 : ∀ (a : Int32) (h1 : xH), o = Sum.inr ((a, h1)) → R = some (xi a) ∧ H' = h1) : xEv g l d 42 69 [(0, xr 5 (some 0)), (1, xr 6 (some i1)), (2, xi v2), (3, xi v3)] [] h R H' := by
  unfold f_Sets_fewestForNoRings_b69 at hf
  obtain ⟨v3_10, ev3_10, hf⟩ := lk_let hf
  refine xe_iinc (v := v3_10) (b := 1) (ls2 := [(0, xr 5 (some 0)), (1, xr 6 (some i1)), (2, xi v2), (3, xi v3_10)]) d42_69 mx42 (by decide) rfl (by decide) ev3_10 rfl ?_
  refine xs_goto (tgt := 7) d42_72 (by decide) ?_
  exact K1 _ _ _ (Option.some.inj hf).symm
noncomputable def f_Sets_fewestForNoRings_b41 (i1 : Nat) (v2 : Int32) (v3 : Int32) (t0 : Int32) (h : xH) : Option ((Int32 × Int32 × xH) ⊕ (Int32 × xH)) :=
  if t0 = (0 : Int32) then (
  f_Sets_fewestForNoRings_b69 i1 v2 v3 h) else (
  (f_Sets_ringsAmong_30 ((h.1 6 2 i1) &&& (v3 ^^^ (-1 : Int32))) i1 h).bind fun q13 =>
  if q13.1 = (0 : Int32) then (
  f_Sets_fewestForNoRings_b69 i1 v3 v3 q13.2) else (
  f_Sets_fewestForNoRings_b69 i1 v2 v3 q13.2))
set_option maxHeartbeats 4000000 in
set_option maxRecDepth 100000 in
theorem f_Sets_fewestForNoRings_b41_ok {g : xG} {l : Launch} {d : Nat} {i1 : Nat} {v2 : Int32} {v3 : Int32} {t0 : Int32} {h : xH} {o : ((Int32 × Int32 × xH) ⊕ (Int32 × xH))} {R : Option xV} {H' : xH} (hD : 2 ≤ d) (hf : f_Sets_fewestForNoRings_b41 i1 v2 v3 t0 h = some o) (K1 : ∀ (w2 : Int32) (w3 : Int32) (h1 : xH), o = Sum.inl (w2, w3, h1) → xEv g l d 42 7 [(0, xr 5 (some 0)), (1, xr 6 (some i1)), (2, xi w2), (3, xi w3)] [] h1 R H') (K0 : ∀ (a : Int32) (h1 : xH), o = Sum.inr ((a, h1)) → R = some (xi a) ∧ H' = h1) : xEv g l d 42 41 [(0, xr 5 (some 0)), (1, xr 6 (some i1)), (2, xi v2), (3, xi v3)] [xi t0] h R H' := by
  unfold f_Sets_fewestForNoRings_b41 at hf
  refine xe_istore (v := t0) (ls2 := [(0, xr 5 (some 0)), (1, xr 6 (some i1)), (2, xi v2), (3, xi v3), (4, xi t0)]) d42_41 mx42 (by decide) rfl rfl ?_
  refine xs_iload d42_43 rfl ?_
  rcases lk_if hf with ⟨hc9, hf⟩ | ⟨hc9, hf⟩
  · refine xs_if_eq (tgt := 69) d42_45 (by decide) (fun _ => ?_) (fun hn => absurd hc9 hn)
    refine xs_pick [0, 1, 2, 3] rfl ?_
    exact f_Sets_fewestForNoRings_b69_ok hD hf K1 K0
  · refine xs_if_eq (tgt := 69) d42_45 (by decide) (fun hp => absurd hp hc9) (fun _ => ?_)
    refine xs_aload_n d42_48 rfl ?_
    refine xs_aload_n d42_49 rfl ?_
    refine xe_geti d42_50 ky42 fl76 fk6_2 ?_
    refine xs_iload_n d42_53 rfl ?_
    refine xs_iconst (v := -1) d42_54 (by decide) ?_
    refine xs_ixor d42_55 ?_
    refine xs_iand d42_56 ?_
    refine xs_aload_n d42_57 rfl ?_
    refine xe_getc (j := i1) d42_58 ky42 fl85 fk6_5 (by omega) ?_
    obtain ⟨q13, hc12, hf⟩ := lk_b hf
    refine xe_callv1 (as := [xi ((h.1 6 2 i1) &&& (v3 ^^^ (-1 : Int32))), xr 30 (some i1)]) (st := []) (h2 := q13.2) (d2 := d - 1) d42_61 ky42 ml135 st41 (by decide) cn41 rfl na41 (Nat.le_of_ble_eq_true rfl) (by omega) (f_Sets_ringsAmong_30_ok (by omega) hc12) ?_
    rcases lk_if hf with ⟨hc14, hf⟩ | ⟨hc14, hf⟩
    · refine xs_if_ne (tgt := 69) d42_64 (by decide) (fun _ => ?_) (fun hn => absurd hc14 hn)
      refine xs_iload_n d42_67 rfl ?_
      refine xe_istore_n (v := v3) (ls2 := [(0, xr 5 (some 0)), (1, xr 6 (some i1)), (2, xi v3), (3, xi v3), (4, xi t0)]) d42_68 mx42 (by decide) rfl rfl ?_
      refine xs_pick [0, 1, 2, 3] rfl ?_
      exact f_Sets_fewestForNoRings_b69_ok hD hf K1 K0
    · refine xs_if_ne (tgt := 69) d42_64 (by decide) (fun hp => absurd hp hc14) (fun _ => ?_)
      refine xs_pick [0, 1, 2, 3] rfl ?_
      exact f_Sets_fewestForNoRings_b69_ok hD hf K1 K0
noncomputable def f_Sets_fewestForNoRings_b40 (i1 : Nat) (v2 : Int32) (v3 : Int32) (h : xH) : Option ((Int32 × Int32 × xH) ⊕ (Int32 × xH)) :=
  f_Sets_fewestForNoRings_b41 i1 v2 v3 (0 : Int32) h
set_option maxHeartbeats 4000000 in
set_option maxRecDepth 100000 in
theorem f_Sets_fewestForNoRings_b40_ok {g : xG} {l : Launch} {d : Nat} {i1 : Nat} {v2 : Int32} {v3 : Int32} {h : xH} {o : ((Int32 × Int32 × xH) ⊕ (Int32 × xH))} {R : Option xV} {H' : xH} (hD : 2 ≤ d) (hf : f_Sets_fewestForNoRings_b40 i1 v2 v3 h = some o) (K1 : ∀ (w2 : Int32) (w3 : Int32) (h1 : xH), o = Sum.inl (w2, w3, h1) → xEv g l d 42 7 [(0, xr 5 (some 0)), (1, xr 6 (some i1)), (2, xi w2), (3, xi w3)] [] h1 R H') (K0 : ∀ (a : Int32) (h1 : xH), o = Sum.inr ((a, h1)) → R = some (xi a) ∧ H' = h1) : xEv g l d 42 40 [(0, xr 5 (some 0)), (1, xr 6 (some i1)), (2, xi v2), (3, xi v3)] [] h R H' := by
  unfold f_Sets_fewestForNoRings_b40 at hf
  refine xs_iconst (v := 0) d42_40 (by decide) ?_
  exact f_Sets_fewestForNoRings_b41_ok hD hf K1 K0
noncomputable def f_Sets_fewestForNoRings_s7 (i1 : Nat) (v2 : Int32) (v3 : Int32) (h : xH) : Option ((Int32 × Int32 × xH) ⊕ (Int32 × xH)) :=
  if (256 : Int32) ≤ v3 then (
  some (Sum.inr ((v2, h)))) else (
  if (v3 &&& ((h.1 6 2 i1) ^^^ (-1 : Int32))) = (0 : Int32) then (
  (f_Integer_bitCount v3 h).bind fun r4 =>
  (f_Integer_bitCount v2 h).bind fun r6 =>
  if r6 ≤ r4 then (
  f_Sets_fewestForNoRings_b40 i1 v2 v3 h) else (
  f_Sets_fewestForNoRings_b41 i1 v2 v3 (1 : Int32) h)) else (
  f_Sets_fewestForNoRings_b40 i1 v2 v3 h))
set_option maxHeartbeats 4000000 in
set_option maxRecDepth 100000 in
theorem f_Sets_fewestForNoRings_s7_ok {g : xG} {l : Launch} {d : Nat} {i1 : Nat} {v2 : Int32} {v3 : Int32} {h : xH} {o : ((Int32 × Int32 × xH) ⊕ (Int32 × xH))} {R : Option xV} {H' : xH} (hD : 2 ≤ d) (hf : f_Sets_fewestForNoRings_s7 i1 v2 v3 h = some o) (K1 : ∀ (w2 : Int32) (w3 : Int32) (h1 : xH), o = Sum.inl (w2, w3, h1) → xEv g l d 42 7 [(0, xr 5 (some 0)), (1, xr 6 (some i1)), (2, xi w2), (3, xi w3)] [] h1 R H') (K0 : ∀ (a : Int32) (h1 : xH), o = Sum.inr ((a, h1)) → R = some (xi a) ∧ H' = h1) : xEv g l d 42 7 [(0, xr 5 (some 0)), (1, xr 6 (some i1)), (2, xi v2), (3, xi v3)] [] h R H' := by
  unfold f_Sets_fewestForNoRings_s7 at hf
  refine xs_iload_n d42_7 rfl ?_
  refine xs_sipush (v := 256) d42_8 (by decide) ?_
  rcases lk_if hf with ⟨hc2, hf⟩ | ⟨hc2, hf⟩
  · refine xs_icmp_ge (tgt := 75) d42_11 (by decide) (fun _ => ?_) (fun hn => absurd hc2 hn)
    refine xs_iload_n d42_75 rfl ?_
    obtain ⟨eR, eH⟩ := K0 _ _ (Option.some.inj hf).symm
    subst eR; subst eH
    exact xs_iret d42_76 rt42
  · refine xs_icmp_ge (tgt := 75) d42_11 (by decide) (fun hp => absurd hp hc2) (fun _ => ?_)
    refine xs_iload_n d42_14 rfl ?_
    refine xs_aload_n d42_15 rfl ?_
    refine xe_geti d42_16 ky42 fl76 fk6_2 ?_
    refine xs_iconst (v := -1) d42_19 (by decide) ?_
    refine xs_ixor d42_20 ?_
    refine xs_iand d42_21 ?_
    rcases lk_if hf with ⟨hc3, hf⟩ | ⟨hc3, hf⟩
    · refine xs_if_ne (tgt := 40) d42_22 (by decide) (fun _ => ?_) (fun hn => absurd hc3 hn)
      refine xs_iload_n d42_25 rfl ?_
      obtain ⟨r4, hc5, hf⟩ := lk_b hf
      refine xe_calls1 (as := [xi v3]) (st := []) (h2 := h) (d2 := d - 1) d42_26 ky42 ml134 st255 rfl na255 (Nat.le_of_ble_eq_true rfl) (by omega) (f_Integer_bitCount_ok (by omega) hc5) ?_
      refine xs_iload_n d42_29 rfl ?_
      obtain ⟨r6, hc7, hf⟩ := lk_b hf
      refine xe_calls1 (as := [xi v2]) (st := [xi r4]) (h2 := h) (d2 := d - 1) d42_30 ky42 ml134 st255 rfl na255 (Nat.le_of_ble_eq_true rfl) (by omega) (f_Integer_bitCount_ok (by omega) hc7) ?_
      rcases lk_if hf with ⟨hc8, hf⟩ | ⟨hc8, hf⟩
      · refine xs_icmp_ge (tgt := 40) d42_33 (by decide) (fun _ => ?_) (fun hn => absurd hc8 hn)
        exact f_Sets_fewestForNoRings_b40_ok hD hf K1 K0
      · refine xs_icmp_ge (tgt := 40) d42_33 (by decide) (fun hp => absurd hp hc8) (fun _ => ?_)
        refine xs_iconst (v := 1) d42_36 (by decide) ?_
        refine xs_goto (tgt := 41) d42_37 (by decide) ?_
        exact f_Sets_fewestForNoRings_b41_ok hD hf K1 K0
    · refine xs_if_ne (tgt := 40) d42_22 (by decide) (fun hp => absurd hp hc3) (fun _ => ?_)
      exact f_Sets_fewestForNoRings_b40_ok hD hf K1 K0
noncomputable def f_Sets_fewestForNoRings_l7 (i1 : Nat) (v2 : Int32) (v3 : Int32) (h : xH) : Option (Int32 × xH) :=
  whl (fun s => f_Sets_fewestForNoRings_s7 i1 s.1 s.2.1 s.2.2) (v2, v3, h)
theorem f_Sets_fewestForNoRings_l7_ok {g : xG} {l : Launch} {d : Nat} {i1 : Nat} {v2 : Int32} {v3 : Int32} {h : xH} {o : (Int32 × xH)} {R : Option xV} {H' : xH} (hD : 2 ≤ d) (hf : f_Sets_fewestForNoRings_l7 i1 v2 v3 h = some o) (K0 : ∀ (a : Int32) (h1 : xH), o = (a, h1) → R = some (xi a) ∧ H' = h1) : xEv g l d 42 7 [(0, xr 5 (some 0)), (1, xr 6 (some i1)), (2, xi v2), (3, xi v3)] [] h R H' := by
  obtain ⟨n, hn⟩ := whl_iff.mp hf
  clear hf
  induction n generalizing v2 v3 h with
  | zero => cases hn
  | succ n ih =>
    obtain ⟨o2, hs, hn⟩ := lk_b (show (f_Sets_fewestForNoRings_s7 i1 v2 v3 h).bind (fun o => Sum.elim (itn _ n) some o) = some o from hn)
    exact f_Sets_fewestForNoRings_s7_ok hD hs (fun u0 u1 u2 e => ih (by rw [e] at hn; exact hn)) (fun u0 u1 e => K0 u0 u1 (by rw [e] at hn; exact (Option.some.inj hn).symm))
noncomputable def f_Sets_fewestForNoRings_e (i1 : Nat) (h : xH) : Option (Int32 × xH) :=
  xlet (h.1 6 2 i1) fun v2_1 =>
  f_Sets_fewestForNoRings_l7 i1 v2_1 (0 : Int32) h
set_option maxHeartbeats 4000000 in
set_option maxRecDepth 100000 in
theorem f_Sets_fewestForNoRings_e_ok {g : xG} {l : Launch} {d : Nat} {i1 : Nat} {h : xH} {o : (Int32 × xH)} {R : Option xV} {H' : xH} (hD : 2 ≤ d) (hf : f_Sets_fewestForNoRings_e i1 h = some o) (K0 : ∀ (a : Int32) (h1 : xH), o = (a, h1) → R = some (xi a) ∧ H' = h1) : xEv g l d 42 0 [(0, xr 5 (some 0)), (1, xr 6 (some i1))] [] h R H' := by
  unfold f_Sets_fewestForNoRings_e at hf
  refine xs_aload_n d42_0 rfl ?_
  refine xe_geti d42_1 ky42 fl76 fk6_2 ?_
  obtain ⟨v2_1, ev2_1, hf⟩ := lk_let hf
  refine xe_istore_n (v := v2_1) (ls2 := [(0, xr 5 (some 0)), (1, xr 6 (some i1)), (2, xi v2_1)]) d42_4 mx42 (by decide) ev2_1 rfl ?_
  refine xs_iconst (v := 0) d42_5 (by decide) ?_
  refine xe_istore_n (v := (0 : Int32)) (ls2 := [(0, xr 5 (some 0)), (1, xr 6 (some i1)), (2, xi v2_1), (3, xi (0 : Int32))]) d42_6 mx42 (by decide) rfl rfl ?_
  exact f_Sets_fewestForNoRings_l7_ok hD hf K0
noncomputable def f_Sets_fewestForNoRings (i1 : Nat) (h : xH) : Option (Int32 × xH) := f_Sets_fewestForNoRings_e i1 h
theorem f_Sets_fewestForNoRings_ok {g : xG} {l : Launch} {d : Nat} {i1 : Nat} {h : xH} {r : Int32} {h1 : xH} (hD : 2 ≤ d) (hf : f_Sets_fewestForNoRings i1 h = some (r, h1)) : xC g l d 42 [xr 5 (some 0), xr 6 (some i1)] h (some (xi r)) h1 :=
  xC_of2 (by decide) mx42 (Nat.le_of_ble_eq_true rfl) (f_Sets_fewestForNoRings_e_ok hD hf (fun _ _ e => by cases e; exact ⟨rfl, rfl⟩))
theorem d44_0 : decode (xcode 44) 0 = .ok (.aload_n 0, 1) := by decide +kernel
theorem d44_1 : decode (xcode 44) 1 = .ok (.getfield 129, 3) := by decide +kernel
theorem d44_4 : decode (xcode 44) 4 = .ok (.iconst (-1), 1) := by decide +kernel
theorem d44_5 : decode (xcode 44) 5 = .ok (.if_icmp .eq 11, 3) := by decide +kernel
theorem d44_8 : decode (xcode 44) 8 = .ok (.iload_n 1, 1) := by decide +kernel
theorem d44_9 : decode (xcode 44) 9 = .ok (.aload_n 0, 1) := by decide +kernel
theorem d44_10 : decode (xcode 44) 10 = .ok (.getfield 132, 3) := by decide +kernel
theorem d44_13 : decode (xcode 44) 13 = .ok (.if_icmp .le 13, 3) := by decide +kernel
theorem d44_16 : decode (xcode 44) 16 = .ok (.aload_n 0, 1) := by decide +kernel
theorem d44_17 : decode (xcode 44) 17 = .ok (.iload_n 1, 1) := by decide +kernel
theorem d44_18 : decode (xcode 44) 18 = .ok (.putfield 132, 3) := by decide +kernel
theorem d44_21 : decode (xcode 44) 21 = .ok (.aload_n 0, 1) := by decide +kernel
theorem d44_22 : decode (xcode 44) 22 = .ok (.iload_n 2, 1) := by decide +kernel
theorem d44_23 : decode (xcode 44) 23 = .ok (.putfield 129, 3) := by decide +kernel
theorem d44_26 : decode (xcode 44) 26 = .ok (.return_, 1) := by decide +kernel
noncomputable def f_Sets_keepMove_b16 (v1 : Int32) (v2 : Int32) (h : xH) : Option xH :=
  xlet (xsI h 5 6 0 v1) fun h2 =>
  xlet (xsI h2 5 7 0 v2) fun h3 =>
  some (h3)
set_option maxHeartbeats 4000000 in
set_option maxRecDepth 100000 in
theorem f_Sets_keepMove_b16_ok {g : xG} {l : Launch} {d : Nat} {v1 : Int32} {v2 : Int32} {h : xH} {o : xH} {R : Option xV} {H' : xH} (hD : 0 ≤ d) (hf : f_Sets_keepMove_b16 v1 v2 h = some o) (K0 : ∀ (h1 : xH), o = h1 → R = none ∧ H' = h1) : xEv g l d 44 16 [(0, xr 5 (some 0)), (1, xi v1), (2, xi v2)] [] h R H' := by
  unfold f_Sets_keepMove_b16 at hf
  refine xs_aload_n d44_16 rfl ?_
  refine xs_iload_n d44_17 rfl ?_
  obtain ⟨h2, eh2, hf⟩ := lk_let hf
  refine xe_puti d44_18 ky44 fl130 fk5_6 ft5_6 eh2 ?_
  refine xs_aload_n d44_21 rfl ?_
  refine xs_iload_n d44_22 rfl ?_
  obtain ⟨h3, eh3, hf⟩ := lk_let hf
  refine xe_puti d44_23 ky44 fl132 fk5_7 ft5_7 eh3 ?_
  obtain ⟨eR, eH⟩ := K0 _ (Option.some.inj hf).symm
  subst eR; subst eH
  exact xs_vret d44_26 rt44
noncomputable def f_Sets_keepMove_e (v1 : Int32) (v2 : Int32) (h : xH) : Option xH :=
  if (h.1 5 7 0) = (-1 : Int32) then (
  f_Sets_keepMove_b16 v1 v2 h) else (
  if v1 ≤ (h.1 5 6 0) then (
  some (h)) else (
  f_Sets_keepMove_b16 v1 v2 h))
set_option maxHeartbeats 4000000 in
set_option maxRecDepth 100000 in
theorem f_Sets_keepMove_e_ok {g : xG} {l : Launch} {d : Nat} {v1 : Int32} {v2 : Int32} {h : xH} {o : xH} {R : Option xV} {H' : xH} (hD : 0 ≤ d) (hf : f_Sets_keepMove_e v1 v2 h = some o) (K0 : ∀ (h1 : xH), o = h1 → R = none ∧ H' = h1) : xEv g l d 44 0 [(0, xr 5 (some 0)), (1, xi v1), (2, xi v2)] [] h R H' := by
  unfold f_Sets_keepMove_e at hf
  refine xs_aload_n d44_0 rfl ?_
  refine xe_geti d44_1 ky44 fl132 fk5_7 ?_
  refine xs_iconst (v := -1) d44_4 (by decide) ?_
  rcases lk_if hf with ⟨hc1, hf⟩ | ⟨hc1, hf⟩
  · refine xs_icmp_eq (tgt := 16) d44_5 (by decide) (fun _ => ?_) (fun hn => absurd hc1 hn)
    exact f_Sets_keepMove_b16_ok hD hf K0
  · refine xs_icmp_eq (tgt := 16) d44_5 (by decide) (fun hp => absurd hp hc1) (fun _ => ?_)
    refine xs_iload_n d44_8 rfl ?_
    refine xs_aload_n d44_9 rfl ?_
    refine xe_geti d44_10 ky44 fl130 fk5_6 ?_
    rcases lk_if hf with ⟨hc4, hf⟩ | ⟨hc4, hf⟩
    · refine xs_icmp_le (tgt := 26) d44_13 (by decide) (fun _ => ?_) (fun hn => absurd hc4 hn)
      obtain ⟨eR, eH⟩ := K0 _ (Option.some.inj hf).symm
      subst eR; subst eH
      exact xs_vret d44_26 rt44
    · refine xs_icmp_le (tgt := 26) d44_13 (by decide) (fun hp => absurd hp hc4) (fun _ => ?_)
      exact f_Sets_keepMove_b16_ok hD hf K0
noncomputable def f_Sets_keepMove (v1 : Int32) (v2 : Int32) (h : xH) : Option xH := f_Sets_keepMove_e v1 v2 h
theorem f_Sets_keepMove_ok {g : xG} {l : Launch} {d : Nat} {v1 : Int32} {v2 : Int32} {h : xH} {h1 : xH} (hD : 0 ≤ d) (hf : f_Sets_keepMove v1 v2 h = some h1) : xC g l d 44 [xr 5 (some 0), xi v1, xi v2] h none h1 :=
  xC_of2 (by decide) mx44 (Nat.le_of_ble_eq_true rfl) (f_Sets_keepMove_e_ok hD hf (fun _ e => ⟨rfl, e⟩))
theorem d43_0 : decode (xcode 43) 0 = .ok (.iconst 0, 1) := by decide +kernel
theorem d43_1 : decode (xcode 43) 1 = .ok (.istore_n 3, 1) := by decide +kernel
theorem d43_2 : decode (xcode 43) 2 = .ok (.iload_n 3, 1) := by decide +kernel
theorem d43_3 : decode (xcode 43) 3 = .ok (.sipush 256, 3) := by decide +kernel
theorem d43_6 : decode (xcode 43) 6 = .ok (.if_icmp .ge 104, 3) := by decide +kernel
theorem d43_9 : decode (xcode 43) 9 = .ok (.iload_n 3, 1) := by decide +kernel
theorem d43_10 : decode (xcode 43) 10 = .ok (.aload_n 2, 1) := by decide +kernel
theorem d43_11 : decode (xcode 43) 11 = .ok (.getfield 68, 3) := by decide +kernel
theorem d43_14 : decode (xcode 43) 14 = .ok (.iconst (-1), 1) := by decide +kernel
theorem d43_15 : decode (xcode 43) 15 = .ok (.ixor, 1) := by decide +kernel
theorem d43_16 : decode (xcode 43) 16 = .ok (.iand, 1) := by decide +kernel
theorem d43_17 : decode (xcode 43) 17 = .ok (.ifCond .ne 87, 3) := by decide +kernel
theorem d43_20 : decode (xcode 43) 20 = .ok (.aload_n 0, 1) := by decide +kernel
theorem d43_21 : decode (xcode 43) 21 = .ok (.iconst (-1), 1) := by decide +kernel
theorem d43_22 : decode (xcode 43) 22 = .ok (.putfield 129, 3) := by decide +kernel
theorem d43_25 : decode (xcode 43) 25 = .ok (.aload_n 0, 1) := by decide +kernel
theorem d43_26 : decode (xcode 43) 26 = .ok (.iconst 0, 1) := by decide +kernel
theorem d43_27 : decode (xcode 43) 27 = .ok (.putfield 132, 3) := by decide +kernel
theorem d43_30 : decode (xcode 43) 30 = .ok (.iconst 0, 1) := by decide +kernel
theorem d43_31 : decode (xcode 43) 31 = .ok (.istore 4, 2) := by decide +kernel
theorem d43_33 : decode (xcode 43) 33 = .ok (.iload 4, 2) := by decide +kernel
theorem d43_35 : decode (xcode 43) 35 = .ok (.bipush 8, 2) := by decide +kernel
theorem d43_37 : decode (xcode 43) 37 = .ok (.if_icmp .ge 57, 3) := by decide +kernel
theorem d43_40 : decode (xcode 43) 40 = .ok (.iload_n 3, 1) := by decide +kernel
theorem d43_41 : decode (xcode 43) 41 = .ok (.iload 4, 2) := by decide +kernel
theorem d43_43 : decode (xcode 43) 43 = .ok (.invokestatic 78, 3) := by decide +kernel
theorem d43_46 : decode (xcode 43) 46 = .ok (.ifCond .eq 42, 3) := by decide +kernel
theorem d43_49 : decode (xcode 43) 49 = .ok (.aload_n 2, 1) := by decide +kernel
theorem d43_50 : decode (xcode 43) 50 = .ok (.getfield 82, 3) := by decide +kernel
theorem d43_53 : decode (xcode 43) 53 = .ok (.iload 4, 2) := by decide +kernel
theorem d43_55 : decode (xcode 43) 55 = .ok (.iaload, 1) := by decide +kernel
theorem d43_56 : decode (xcode 43) 56 = .ok (.iload_n 3, 1) := by decide +kernel
theorem d43_57 : decode (xcode 43) 57 = .ok (.iand, 1) := by decide +kernel
theorem d43_58 : decode (xcode 43) 58 = .ok (.ifCond .ne 30, 3) := by decide +kernel
theorem d43_61 : decode (xcode 43) 61 = .ok (.aload_n 0, 1) := by decide +kernel
theorem d43_62 : decode (xcode 43) 62 = .ok (.aload_n 1, 1) := by decide +kernel
theorem d43_63 : decode (xcode 43) 63 = .ok (.getfield 40, 3) := by decide +kernel
theorem d43_66 : decode (xcode 43) 66 = .ok (.iload 4, 2) := by decide +kernel
theorem d43_68 : decode (xcode 43) 68 = .ok (.iaload, 1) := by decide +kernel
theorem d43_69 : decode (xcode 43) 69 = .ok (.aload_n 0, 1) := by decide +kernel
theorem d43_70 : decode (xcode 43) 70 = .ok (.getfield 21, 3) := by decide +kernel
theorem d43_73 : decode (xcode 43) 73 = .ok (.iload_n 3, 1) := by decide +kernel
theorem d43_74 : decode (xcode 43) 74 = .ok (.iconst 1, 1) := by decide +kernel
theorem d43_75 : decode (xcode 43) 75 = .ok (.iload 4, 2) := by decide +kernel
theorem d43_77 : decode (xcode 43) 77 = .ok (.ishl, 1) := by decide +kernel
theorem d43_78 : decode (xcode 43) 78 = .ok (.iconst (-1), 1) := by decide +kernel
theorem d43_79 : decode (xcode 43) 79 = .ok (.ixor, 1) := by decide +kernel
theorem d43_80 : decode (xcode 43) 80 = .ok (.iand, 1) := by decide +kernel
theorem d43_81 : decode (xcode 43) 81 = .ok (.iaload, 1) := by decide +kernel
theorem d43_82 : decode (xcode 43) 82 = .ok (.isub, 1) := by decide +kernel
theorem d43_83 : decode (xcode 43) 83 = .ok (.iload 4, 2) := by decide +kernel
theorem d43_85 : decode (xcode 43) 85 = .ok (.invokevirtual 135, 3) := by decide +kernel
theorem d43_88 : decode (xcode 43) 88 = .ok (.iinc 4 1, 3) := by decide +kernel
theorem d43_91 : decode (xcode 43) 91 = .ok (.goto (-58), 3) := by decide +kernel
theorem d43_94 : decode (xcode 43) 94 = .ok (.aload_n 0, 1) := by decide +kernel
theorem d43_95 : decode (xcode 43) 95 = .ok (.getfield 21, 3) := by decide +kernel
theorem d43_98 : decode (xcode 43) 98 = .ok (.iload_n 3, 1) := by decide +kernel
theorem d43_99 : decode (xcode 43) 99 = .ok (.aload_n 0, 1) := by decide +kernel
theorem d43_100 : decode (xcode 43) 100 = .ok (.getfield 132, 3) := by decide +kernel
theorem d43_103 : decode (xcode 43) 103 = .ok (.iastore, 1) := by decide +kernel
theorem d43_104 : decode (xcode 43) 104 = .ok (.iinc 3 1, 3) := by decide +kernel
theorem d43_107 : decode (xcode 43) 107 = .ok (.goto (-105), 3) := by decide +kernel
theorem d43_110 : decode (xcode 43) 110 = .ok (.return_, 1) := by decide +kernel
noncomputable def f_Sets_findGame_b104 (i1 : Nat) (i2 : Nat) (v3 : Int32) (h : xH) : Option ((Int32 × xH) ⊕ xH) :=
  xlet (v3 + (1 : Int32)) fun v3_8 =>
  some (Sum.inl (v3_8, h))
set_option maxHeartbeats 4000000 in
set_option maxRecDepth 100000 in
theorem f_Sets_findGame_b104_ok {g : xG} {l : Launch} {d : Nat} {i1 : Nat} {i2 : Nat} {v3 : Int32} {h : xH} {o : ((Int32 × xH) ⊕ xH)} {R : Option xV} {H' : xH} (hD : 1 ≤ d) (hf : f_Sets_findGame_b104 i1 i2 v3 h = some o) (K1 : ∀ (w3 : Int32) (h1 : xH), o = Sum.inl (w3, h1) → xEv g l d 43 2 [(0, xr 5 (some 0)), (1, xr 8 (some i1)), (2, xr 6 (some i2)), (3, xi w3)] [] h1 R H') (K0 : ∀ (h1 : xH), o = Sum.inr (h1) → R = none ∧ H' = h1) : xEv g l d 43 104 [(0, xr 5 (some 0)), (1, xr 8 (some i1)), (2, xr 6 (some i2)), (3, xi v3)] [] h R H' := by
  unfold f_Sets_findGame_b104 at hf
  obtain ⟨v3_8, ev3_8, hf⟩ := lk_let hf
  refine xe_iinc (v := v3_8) (b := 1) (ls2 := [(0, xr 5 (some 0)), (1, xr 8 (some i1)), (2, xr 6 (some i2)), (3, xi v3_8)]) d43_104 mx43 (by decide) rfl (by decide) ev3_8 rfl ?_
  refine xs_goto (tgt := 2) d43_107 (by decide) ?_
  exact K1 _ _ (Option.some.inj hf).symm
noncomputable def f_Sets_findGame_b94 (i1 : Nat) (i2 : Nat) (v3 : Int32) (h : xH) : Option ((Int32 × xH) ⊕ xH) :=
  if xib v3 256 then (
  xlet (xsA h 25 0 (upd (h.2.2.2.1 25 0) (v3).toNatClampNeg (h.1 5 6 0))) fun h7 =>
  f_Sets_findGame_b104 i1 i2 v3 h7) else none
set_option maxHeartbeats 4000000 in
set_option maxRecDepth 100000 in
theorem f_Sets_findGame_b94_ok {g : xG} {l : Launch} {d : Nat} {i1 : Nat} {i2 : Nat} {v3 : Int32} {h : xH} {o : ((Int32 × xH) ⊕ xH)} {R : Option xV} {H' : xH} (hD : 1 ≤ d) (hf : f_Sets_findGame_b94 i1 i2 v3 h = some o) (K1 : ∀ (w3 : Int32) (h1 : xH), o = Sum.inl (w3, h1) → xEv g l d 43 2 [(0, xr 5 (some 0)), (1, xr 8 (some i1)), (2, xr 6 (some i2)), (3, xi w3)] [] h1 R H') (K0 : ∀ (h1 : xH), o = Sum.inr (h1) → R = none ∧ H' = h1) : xEv g l d 43 94 [(0, xr 5 (some 0)), (1, xr 8 (some i1)), (2, xr 6 (some i2)), (3, xi v3)] [] h R H' := by
  unfold f_Sets_findGame_b94 at hf
  refine xs_aload_n d43_94 rfl ?_
  refine xe_getc (j := 0) d43_95 ky43 fl136 fk5_10 rfl ?_
  refine xs_iload_n d43_98 rfl ?_
  refine xs_aload_n d43_99 rfl ?_
  refine xe_geti d43_100 ky43 fl130 fk5_6 ?_
  obtain ⟨hin6, hf⟩ := lk_g hf
  obtain ⟨h7, eh7, hf⟩ := lk_let hf
  refine xe_iast d43_103 (by decide) ak25 hin6  eh7 ?_
  exact f_Sets_findGame_b104_ok hD hf K1 K0
noncomputable def f_Sets_findGame_b88 (i1 : Nat) (i2 : Nat) (v3 : Int32) (v4 : Int32) (h : xH) : Option ((Int32 × xH) ⊕ ((Int32 × xH) ⊕ xH)) :=
  xlet (v4 + (1 : Int32)) fun v4_12 =>
  some (Sum.inl (v4_12, h))
set_option maxHeartbeats 4000000 in
set_option maxRecDepth 100000 in
theorem f_Sets_findGame_b88_ok {g : xG} {l : Launch} {d : Nat} {i1 : Nat} {i2 : Nat} {v3 : Int32} {v4 : Int32} {h : xH} {o : ((Int32 × xH) ⊕ ((Int32 × xH) ⊕ xH))} {R : Option xV} {H' : xH} (hD : 1 ≤ d) (hf : f_Sets_findGame_b88 i1 i2 v3 v4 h = some o) (K1 : ∀ (w3 : Int32) (h1 : xH), o = Sum.inr (Sum.inl (w3, h1)) → xEv g l d 43 2 [(0, xr 5 (some 0)), (1, xr 8 (some i1)), (2, xr 6 (some i2)), (3, xi w3)] [] h1 R H') (K2 : ∀ (w4 : Int32) (h1 : xH), o = Sum.inl (w4, h1) → xEv g l d 43 33 [(0, xr 5 (some 0)), (1, xr 8 (some i1)), (2, xr 6 (some i2)), (3, xi v3), (4, xi w4)] [] h1 R H') (K0 : ∀ (h1 : xH), o = Sum.inr (Sum.inr (h1)) → R = none ∧ H' = h1) : xEv g l d 43 88 [(0, xr 5 (some 0)), (1, xr 8 (some i1)), (2, xr 6 (some i2)), (3, xi v3), (4, xi v4)] [] h R H' := by
  unfold f_Sets_findGame_b88 at hf
  obtain ⟨v4_12, ev4_12, hf⟩ := lk_let hf
  refine xe_iinc (v := v4_12) (b := 1) (ls2 := [(0, xr 5 (some 0)), (1, xr 8 (some i1)), (2, xr 6 (some i2)), (3, xi v3), (4, xi v4_12)]) d43_88 mx43 (by decide) rfl (by decide) ev4_12 rfl ?_
  refine xs_goto (tgt := 33) d43_91 (by decide) ?_
  exact K2 _ _ (Option.some.inj hf).symm
noncomputable def f_Sets_findGame_s33 (i1 : Nat) (i2 : Nat) (v3 : Int32) (v4 : Int32) (h : xH) : Option ((Int32 × xH) ⊕ ((Int32 × xH) ⊕ xH)) :=
  if (8 : Int32) ≤ v4 then (
  xup (f_Sets_findGame_b94 i1 i2 v3 h)) else (
  (f_Sets_has v3 v4 h).bind fun r9 =>
  if r9 = (0 : Int32) then (
  f_Sets_findGame_b88 i1 i2 v3 v4 h) else (
  if xib v4 8 then (
  if ((h.2.2.2.1 30 i2 (v4).toNatClampNeg) &&& v3) = (0 : Int32) then (
  if xib v4 8 then (
  if xib (v3 &&& (((1 : Int32) <<< (v4 &&& 31)) ^^^ (-1 : Int32))) 256 then (
  (f_Sets_keepMove ((h.2.2.2.1 39 i1 (v4).toNatClampNeg) - (h.2.2.2.1 25 0 (v3 &&& (((1 : Int32) <<< (v4 &&& 31)) ^^^ (-1 : Int32))).toNatClampNeg)) v4 h).bind fun h19 =>
  f_Sets_findGame_b88 i1 i2 v3 v4 h19) else none) else none) else (
  f_Sets_findGame_b88 i1 i2 v3 v4 h)) else none))
set_option maxHeartbeats 4000000 in
set_option maxRecDepth 100000 in
theorem f_Sets_findGame_s33_ok {g : xG} {l : Launch} {d : Nat} {i1 : Nat} {i2 : Nat} {v3 : Int32} {v4 : Int32} {h : xH} {o : ((Int32 × xH) ⊕ ((Int32 × xH) ⊕ xH))} {R : Option xV} {H' : xH} (hD : 1 ≤ d) (hf : f_Sets_findGame_s33 i1 i2 v3 v4 h = some o) (K1 : ∀ (w3 : Int32) (h1 : xH), o = Sum.inr (Sum.inl (w3, h1)) → xEv g l d 43 2 [(0, xr 5 (some 0)), (1, xr 8 (some i1)), (2, xr 6 (some i2)), (3, xi w3)] [] h1 R H') (K2 : ∀ (w4 : Int32) (h1 : xH), o = Sum.inl (w4, h1) → xEv g l d 43 33 [(0, xr 5 (some 0)), (1, xr 8 (some i1)), (2, xr 6 (some i2)), (3, xi v3), (4, xi w4)] [] h1 R H') (K0 : ∀ (h1 : xH), o = Sum.inr (Sum.inr (h1)) → R = none ∧ H' = h1) : xEv g l d 43 33 [(0, xr 5 (some 0)), (1, xr 8 (some i1)), (2, xr 6 (some i2)), (3, xi v3), (4, xi v4)] [] h R H' := by
  unfold f_Sets_findGame_s33 at hf
  refine xs_iload d43_33 rfl ?_
  refine xs_bipush (v := 8) d43_35 (by decide) ?_
  rcases lk_if hf with ⟨hc5, hf⟩ | ⟨hc5, hf⟩
  · refine xs_icmp_ge (tgt := 94) d43_37 (by decide) (fun _ => ?_) (fun hn => absurd hc5 hn)
    refine xs_pick [0, 1, 2, 3] rfl ?_
    obtain ⟨x0, hf, ex0⟩ := lk_up hf
    exact f_Sets_findGame_b94_ok hD hf (fun u0 u1 e => K1 u0 u1 (ex0.trans (congrArg Sum.inr e))) (fun u0 e => K0 u0 (ex0.trans (congrArg Sum.inr e)))
  · refine xs_icmp_ge (tgt := 94) d43_37 (by decide) (fun hp => absurd hp hc5) (fun _ => ?_)
    refine xs_iload_n d43_40 rfl ?_
    refine xs_iload d43_41 rfl ?_
    obtain ⟨r9, hc10, hf⟩ := lk_b hf
    refine xe_calls1 (as := [xi v3, xi v4]) (st := []) (h2 := h) (d2 := d - 1) d43_43 ky43 ml118 st28 rfl na28 (Nat.le_of_ble_eq_true rfl) (by omega) (f_Sets_has_ok (by omega) hc10) ?_
    rcases lk_if hf with ⟨hc11, hf⟩ | ⟨hc11, hf⟩
    · refine xs_if_eq (tgt := 88) d43_46 (by decide) (fun _ => ?_) (fun hn => absurd hc11 hn)
      exact f_Sets_findGame_b88_ok hD hf K1 K2 K0
    · refine xs_if_eq (tgt := 88) d43_46 (by decide) (fun hp => absurd hp hc11) (fun _ => ?_)
      refine xs_aload_n d43_49 rfl ?_
      refine xe_getc (j := i2) d43_50 ky43 fl85 fk6_5 (by omega) ?_
      refine xs_iload d43_53 rfl ?_
      obtain ⟨hin13, hf⟩ := lk_g hf
      refine xe_iald d43_55 (by decide) ak30 hin13 ?_
      refine xs_iload_n d43_56 rfl ?_
      refine xs_iand d43_57 ?_
      rcases lk_if hf with ⟨hc14, hf⟩ | ⟨hc14, hf⟩
      · refine xs_if_ne (tgt := 88) d43_58 (by decide) (fun _ => ?_) (fun hn => absurd hc14 hn)
        refine xs_aload_n d43_61 rfl ?_
        refine xs_aload_n d43_62 rfl ?_
        refine xe_getc (j := i1) d43_63 ky43 fl44 fk8_7 (by omega) ?_
        refine xs_iload d43_66 rfl ?_
        obtain ⟨hin15, hf⟩ := lk_g hf
        refine xe_iald d43_68 (by decide) ak39 hin15 ?_
        refine xs_aload_n d43_69 rfl ?_
        refine xe_getc (j := 0) d43_70 ky43 fl136 fk5_10 rfl ?_
        refine xs_iload_n d43_73 rfl ?_
        refine xs_iconst (v := 1) d43_74 (by decide) ?_
        refine xs_iload d43_75 rfl ?_
        refine xs_ishl d43_77 ?_
        refine xs_iconst (v := -1) d43_78 (by decide) ?_
        refine xs_ixor d43_79 ?_
        refine xs_iand d43_80 ?_
        obtain ⟨hin16, hf⟩ := lk_g hf
        refine xe_iald d43_81 (by decide) ak25 hin16 ?_
        refine xs_isub d43_82 ?_
        refine xs_iload d43_83 rfl ?_
        obtain ⟨h19, hc18, hf⟩ := lk_b hf
        refine xe_callv0 (as := [xi ((h.2.2.2.1 39 i1 (v4).toNatClampNeg) - (h.2.2.2.1 25 0 (v3 &&& (((1 : Int32) <<< (v4 &&& 31)) ^^^ (-1 : Int32))).toNatClampNeg)), xi v4]) (st := []) (h2 := h19) (d2 := d - 1) d43_85 ky43 ml149 st44 (by decide) cn44 rfl na44 (Nat.le_of_ble_eq_true rfl) (by omega) (f_Sets_keepMove_ok (by omega) hc18) ?_
        exact f_Sets_findGame_b88_ok hD hf K1 K2 K0
      · refine xs_if_ne (tgt := 88) d43_58 (by decide) (fun hp => absurd hp hc14) (fun _ => ?_)
        exact f_Sets_findGame_b88_ok hD hf K1 K2 K0
noncomputable def f_Sets_findGame_l33 (i1 : Nat) (i2 : Nat) (v3 : Int32) (v4 : Int32) (h : xH) : Option ((Int32 × xH) ⊕ xH) :=
  whl (fun s => f_Sets_findGame_s33 i1 i2 v3 s.1 s.2) (v4, h)
theorem f_Sets_findGame_l33_ok {g : xG} {l : Launch} {d : Nat} {i1 : Nat} {i2 : Nat} {v3 : Int32} {v4 : Int32} {h : xH} {o : ((Int32 × xH) ⊕ xH)} {R : Option xV} {H' : xH} (hD : 1 ≤ d) (hf : f_Sets_findGame_l33 i1 i2 v3 v4 h = some o) (K1 : ∀ (w3 : Int32) (h1 : xH), o = Sum.inl (w3, h1) → xEv g l d 43 2 [(0, xr 5 (some 0)), (1, xr 8 (some i1)), (2, xr 6 (some i2)), (3, xi w3)] [] h1 R H') (K0 : ∀ (h1 : xH), o = Sum.inr (h1) → R = none ∧ H' = h1) : xEv g l d 43 33 [(0, xr 5 (some 0)), (1, xr 8 (some i1)), (2, xr 6 (some i2)), (3, xi v3), (4, xi v4)] [] h R H' := by
  obtain ⟨n, hn⟩ := whl_iff.mp hf
  clear hf
  induction n generalizing v4 h with
  | zero => cases hn
  | succ n ih =>
    obtain ⟨o2, hs, hn⟩ := lk_b (show (f_Sets_findGame_s33 i1 i2 v3 v4 h).bind (fun o => Sum.elim (itn _ n) some o) = some o from hn)
    exact f_Sets_findGame_s33_ok hD hs (fun u0 u1 e => K1 u0 u1 (by rw [e] at hn; exact (Option.some.inj hn).symm)) (fun u0 u1 e => ih (by rw [e] at hn; exact hn)) (fun u0 e => K0 u0 (by rw [e] at hn; exact (Option.some.inj hn).symm))
noncomputable def f_Sets_findGame_s2 (i1 : Nat) (i2 : Nat) (v3 : Int32) (h : xH) : Option ((Int32 × xH) ⊕ xH) :=
  if (256 : Int32) ≤ v3 then (
  some (Sum.inr (h))) else (
  if (v3 &&& ((h.1 6 2 i2) ^^^ (-1 : Int32))) = (0 : Int32) then (
  xlet (xsI h 5 7 0 (-1 : Int32)) fun h3 =>
  xlet (xsI h3 5 6 0 (0 : Int32)) fun h4 =>
  f_Sets_findGame_l33 i1 i2 v3 (0 : Int32) h4) else (
  f_Sets_findGame_b104 i1 i2 v3 h))
set_option maxHeartbeats 4000000 in
set_option maxRecDepth 100000 in
theorem f_Sets_findGame_s2_ok {g : xG} {l : Launch} {d : Nat} {i1 : Nat} {i2 : Nat} {v3 : Int32} {h : xH} {o : ((Int32 × xH) ⊕ xH)} {R : Option xV} {H' : xH} (hD : 1 ≤ d) (hf : f_Sets_findGame_s2 i1 i2 v3 h = some o) (K1 : ∀ (w3 : Int32) (h1 : xH), o = Sum.inl (w3, h1) → xEv g l d 43 2 [(0, xr 5 (some 0)), (1, xr 8 (some i1)), (2, xr 6 (some i2)), (3, xi w3)] [] h1 R H') (K0 : ∀ (h1 : xH), o = Sum.inr (h1) → R = none ∧ H' = h1) : xEv g l d 43 2 [(0, xr 5 (some 0)), (1, xr 8 (some i1)), (2, xr 6 (some i2)), (3, xi v3)] [] h R H' := by
  unfold f_Sets_findGame_s2 at hf
  refine xs_iload_n d43_2 rfl ?_
  refine xs_sipush (v := 256) d43_3 (by decide) ?_
  rcases lk_if hf with ⟨hc1, hf⟩ | ⟨hc1, hf⟩
  · refine xs_icmp_ge (tgt := 110) d43_6 (by decide) (fun _ => ?_) (fun hn => absurd hc1 hn)
    obtain ⟨eR, eH⟩ := K0 _ (Option.some.inj hf).symm
    subst eR; subst eH
    exact xs_vret d43_110 rt43
  · refine xs_icmp_ge (tgt := 110) d43_6 (by decide) (fun hp => absurd hp hc1) (fun _ => ?_)
    refine xs_iload_n d43_9 rfl ?_
    refine xs_aload_n d43_10 rfl ?_
    refine xe_geti d43_11 ky43 fl76 fk6_2 ?_
    refine xs_iconst (v := -1) d43_14 (by decide) ?_
    refine xs_ixor d43_15 ?_
    refine xs_iand d43_16 ?_
    rcases lk_if hf with ⟨hc2, hf⟩ | ⟨hc2, hf⟩
    · refine xs_if_ne (tgt := 104) d43_17 (by decide) (fun _ => ?_) (fun hn => absurd hc2 hn)
      refine xs_aload_n d43_20 rfl ?_
      refine xs_iconst (v := -1) d43_21 (by decide) ?_
      obtain ⟨h3, eh3, hf⟩ := lk_let hf
      refine xe_puti d43_22 ky43 fl132 fk5_7 ft5_7 eh3 ?_
      refine xs_aload_n d43_25 rfl ?_
      refine xs_iconst (v := 0) d43_26 (by decide) ?_
      obtain ⟨h4, eh4, hf⟩ := lk_let hf
      refine xe_puti d43_27 ky43 fl130 fk5_6 ft5_6 eh4 ?_
      refine xs_iconst (v := 0) d43_30 (by decide) ?_
      refine xe_istore (v := (0 : Int32)) (ls2 := [(0, xr 5 (some 0)), (1, xr 8 (some i1)), (2, xr 6 (some i2)), (3, xi v3), (4, xi (0 : Int32))]) d43_31 mx43 (by decide) rfl rfl ?_
      exact f_Sets_findGame_l33_ok hD hf K1 K0
    · refine xs_if_ne (tgt := 104) d43_17 (by decide) (fun hp => absurd hp hc2) (fun _ => ?_)
      exact f_Sets_findGame_b104_ok hD hf K1 K0
noncomputable def f_Sets_findGame_l2 (i1 : Nat) (i2 : Nat) (v3 : Int32) (h : xH) : Option xH :=
  whl (fun s => f_Sets_findGame_s2 i1 i2 s.1 s.2) (v3, h)
theorem f_Sets_findGame_l2_ok {g : xG} {l : Launch} {d : Nat} {i1 : Nat} {i2 : Nat} {v3 : Int32} {h : xH} {o : xH} {R : Option xV} {H' : xH} (hD : 1 ≤ d) (hf : f_Sets_findGame_l2 i1 i2 v3 h = some o) (K0 : ∀ (h1 : xH), o = h1 → R = none ∧ H' = h1) : xEv g l d 43 2 [(0, xr 5 (some 0)), (1, xr 8 (some i1)), (2, xr 6 (some i2)), (3, xi v3)] [] h R H' := by
  obtain ⟨n, hn⟩ := whl_iff.mp hf
  clear hf
  induction n generalizing v3 h with
  | zero => cases hn
  | succ n ih =>
    obtain ⟨o2, hs, hn⟩ := lk_b (show (f_Sets_findGame_s2 i1 i2 v3 h).bind (fun o => Sum.elim (itn _ n) some o) = some o from hn)
    exact f_Sets_findGame_s2_ok hD hs (fun u0 u1 e => ih (by rw [e] at hn; exact hn)) (fun u0 e => K0 u0 (by rw [e] at hn; exact (Option.some.inj hn).symm))
noncomputable def f_Sets_findGame_e (i1 : Nat) (i2 : Nat) (h : xH) : Option xH :=
  f_Sets_findGame_l2 i1 i2 (0 : Int32) h
set_option maxHeartbeats 4000000 in
set_option maxRecDepth 100000 in
theorem f_Sets_findGame_e_ok {g : xG} {l : Launch} {d : Nat} {i1 : Nat} {i2 : Nat} {h : xH} {o : xH} {R : Option xV} {H' : xH} (hD : 1 ≤ d) (hf : f_Sets_findGame_e i1 i2 h = some o) (K0 : ∀ (h1 : xH), o = h1 → R = none ∧ H' = h1) : xEv g l d 43 0 [(0, xr 5 (some 0)), (1, xr 8 (some i1)), (2, xr 6 (some i2))] [] h R H' := by
  unfold f_Sets_findGame_e at hf
  refine xs_iconst (v := 0) d43_0 (by decide) ?_
  refine xe_istore_n (v := (0 : Int32)) (ls2 := [(0, xr 5 (some 0)), (1, xr 8 (some i1)), (2, xr 6 (some i2)), (3, xi (0 : Int32))]) d43_1 mx43 (by decide) rfl rfl ?_
  exact f_Sets_findGame_l2_ok hD hf K0
noncomputable def f_Sets_findGame (i1 : Nat) (i2 : Nat) (h : xH) : Option xH := f_Sets_findGame_e i1 i2 h
theorem f_Sets_findGame_ok {g : xG} {l : Launch} {d : Nat} {i1 : Nat} {i2 : Nat} {h : xH} {h1 : xH} (hD : 1 ≤ d) (hf : f_Sets_findGame i1 i2 h = some h1) : xC g l d 43 [xr 5 (some 0), xr 8 (some i1), xr 6 (some i2)] h none h1 :=
  xC_of2 (by decide) mx43 (Nat.le_of_ble_eq_true rfl) (f_Sets_findGame_e_ok hD hf (fun _ e => ⟨rfl, e⟩))
theorem d45_0 : decode (xcode 45) 0 = .ok (.aload_n 0, 1) := by decide +kernel
theorem d45_1 : decode (xcode 45) 1 = .ok (.iconst 0, 1) := by decide +kernel
theorem d45_2 : decode (xcode 45) 2 = .ok (.putfield 24, 3) := by decide +kernel
theorem d45_5 : decode (xcode 45) 5 = .ok (.aload_n 0, 1) := by decide +kernel
theorem d45_6 : decode (xcode 45) 6 = .ok (.iconst 0, 1) := by decide +kernel
theorem d45_7 : decode (xcode 45) 7 = .ok (.putfield 28, 3) := by decide +kernel
theorem d45_10 : decode (xcode 45) 10 = .ok (.aload_n 0, 1) := by decide +kernel
theorem d45_11 : decode (xcode 45) 11 = .ok (.iconst 1, 1) := by decide +kernel
theorem d45_12 : decode (xcode 45) 12 = .ok (.aload_n 1, 1) := by decide +kernel
theorem d45_13 : decode (xcode 45) 13 = .ok (.getfield 31, 3) := by decide +kernel
theorem d45_16 : decode (xcode 45) 16 = .ok (.ishl, 1) := by decide +kernel
theorem d45_17 : decode (xcode 45) 17 = .ok (.iconst 1, 1) := by decide +kernel
theorem d45_18 : decode (xcode 45) 18 = .ok (.isub, 1) := by decide +kernel
theorem d45_19 : decode (xcode 45) 19 = .ok (.putfield 36, 3) := by decide +kernel
theorem d45_22 : decode (xcode 45) 22 = .ok (.aload_n 0, 1) := by decide +kernel
theorem d45_23 : decode (xcode 45) 23 = .ok (.iconst 0, 1) := by decide +kernel
theorem d45_24 : decode (xcode 45) 24 = .ok (.putfield 39, 3) := by decide +kernel
theorem d45_27 : decode (xcode 45) 27 = .ok (.iconst 0, 1) := by decide +kernel
theorem d45_28 : decode (xcode 45) 28 = .ok (.istore_n 2, 1) := by decide +kernel
theorem d45_29 : decode (xcode 45) 29 = .ok (.iload_n 2, 1) := by decide +kernel
theorem d45_30 : decode (xcode 45) 30 = .ok (.bipush 8, 2) := by decide +kernel
theorem d45_32 : decode (xcode 45) 32 = .ok (.if_icmp .ge 16, 3) := by decide +kernel
theorem d45_35 : decode (xcode 45) 35 = .ok (.aload_n 0, 1) := by decide +kernel
theorem d45_36 : decode (xcode 45) 36 = .ok (.getfield 9, 3) := by decide +kernel
theorem d45_39 : decode (xcode 45) 39 = .ok (.iload_n 2, 1) := by decide +kernel
theorem d45_40 : decode (xcode 45) 40 = .ok (.iconst (-1), 1) := by decide +kernel
theorem d45_41 : decode (xcode 45) 41 = .ok (.iastore, 1) := by decide +kernel
theorem d45_42 : decode (xcode 45) 42 = .ok (.iinc 2 1, 3) := by decide +kernel
theorem d45_45 : decode (xcode 45) 45 = .ok (.goto (-16), 3) := by decide +kernel
theorem d45_48 : decode (xcode 45) 48 = .ok (.aload_n 1, 1) := by decide +kernel
theorem d45_49 : decode (xcode 45) 49 = .ok (.getfield 42, 3) := by decide +kernel
theorem d45_52 : decode (xcode 45) 52 = .ok (.iconst 0, 1) := by decide +kernel
theorem d45_53 : decode (xcode 45) 53 = .ok (.aload_n 0, 1) := by decide +kernel
theorem d45_54 : decode (xcode 45) 54 = .ok (.getfield 15, 3) := by decide +kernel
theorem d45_57 : decode (xcode 45) 57 = .ok (.iconst 0, 1) := by decide +kernel
theorem d45_58 : decode (xcode 45) 58 = .ok (.bipush 8, 2) := by decide +kernel
theorem d45_60 : decode (xcode 45) 60 = .ok (.invokestatic 43, 3) := by decide +kernel
theorem d45_63 : decode (xcode 45) 63 = .ok (.aload_n 1, 1) := by decide +kernel
theorem d45_64 : decode (xcode 45) 64 = .ok (.getfield 49, 3) := by decide +kernel
theorem d45_67 : decode (xcode 45) 67 = .ok (.iconst 0, 1) := by decide +kernel
theorem d45_68 : decode (xcode 45) 68 = .ok (.aload_n 0, 1) := by decide +kernel
theorem d45_69 : decode (xcode 45) 69 = .ok (.getfield 18, 3) := by decide +kernel
theorem d45_72 : decode (xcode 45) 72 = .ok (.iconst 0, 1) := by decide +kernel
theorem d45_73 : decode (xcode 45) 73 = .ok (.bipush 8, 2) := by decide +kernel
theorem d45_75 : decode (xcode 45) 75 = .ok (.invokestatic 43, 3) := by decide +kernel
theorem d45_78 : decode (xcode 45) 78 = .ok (.aload_n 1, 1) := by decide +kernel
theorem d45_79 : decode (xcode 45) 79 = .ok (.getfield 50, 3) := by decide +kernel
theorem d45_82 : decode (xcode 45) 82 = .ok (.iconst 0, 1) := by decide +kernel
theorem d45_83 : decode (xcode 45) 83 = .ok (.aload_n 0, 1) := by decide +kernel
theorem d45_84 : decode (xcode 45) 84 = .ok (.getfield 21, 3) := by decide +kernel
theorem d45_87 : decode (xcode 45) 87 = .ok (.iconst 0, 1) := by decide +kernel
theorem d45_88 : decode (xcode 45) 88 = .ok (.bipush 8, 2) := by decide +kernel
theorem d45_90 : decode (xcode 45) 90 = .ok (.invokestatic 43, 3) := by decide +kernel
theorem d45_93 : decode (xcode 45) 93 = .ok (.return_, 1) := by decide +kernel
noncomputable def f_State_begin_b48 (i0 : Nat) (i1 : Nat) (h : xH) : Option xH :=
  if ¬ (0 : Int32) < 0 ∧ ¬ (0 : Int32) < 0 ∧ ¬ (8 : Int32) < 0 ∧ ((0 : Int32)).toNatClampNeg + ((8 : Int32)).toNatClampNeg ≤ 8 ∧ ((0 : Int32)).toNatClampNeg + ((8 : Int32)).toNatClampNeg ≤ 8 then (
  xlet (xsA h 30 i0 (va_cpy (h.2.2.2.1 40 i1) (h.2.2.2.1 30 i0) ((0 : Int32)).toNatClampNeg ((0 : Int32)).toNatClampNeg ((8 : Int32)).toNatClampNeg)) fun h7 =>
  if ¬ (0 : Int32) < 0 ∧ ¬ (0 : Int32) < 0 ∧ ¬ (8 : Int32) < 0 ∧ ((0 : Int32)).toNatClampNeg + ((8 : Int32)).toNatClampNeg ≤ 8 ∧ ((0 : Int32)).toNatClampNeg + ((8 : Int32)).toNatClampNeg ≤ 8 then (
  xlet (xsA h7 31 i0 (va_cpy (h7.2.2.2.1 37 i1) (h7.2.2.2.1 31 i0) ((0 : Int32)).toNatClampNeg ((0 : Int32)).toNatClampNeg ((8 : Int32)).toNatClampNeg)) fun h9 =>
  if ¬ (0 : Int32) < 0 ∧ ¬ (0 : Int32) < 0 ∧ ¬ (8 : Int32) < 0 ∧ ((0 : Int32)).toNatClampNeg + ((8 : Int32)).toNatClampNeg ≤ 8 ∧ ((0 : Int32)).toNatClampNeg + ((8 : Int32)).toNatClampNeg ≤ 8 then (
  xlet (xsA h9 32 i0 (va_cpy (h9.2.2.2.1 38 i1) (h9.2.2.2.1 32 i0) ((0 : Int32)).toNatClampNeg ((0 : Int32)).toNatClampNeg ((8 : Int32)).toNatClampNeg)) fun h11 =>
  some (h11)) else none) else none) else none
set_option maxHeartbeats 4000000 in
set_option maxRecDepth 100000 in
theorem f_State_begin_b48_ok {g : xG} {l : Launch} {d : Nat} {i0 : Nat} {i1 : Nat} {h : xH} {o : xH} {R : Option xV} {H' : xH} (hD : 1 ≤ d) (hf : f_State_begin_b48 i0 i1 h = some o) (K0 : ∀ (h1 : xH), o = h1 → R = none ∧ H' = h1) : xEv g l d 45 48 [(0, xr 6 (some i0)), (1, xr 8 (some i1))] [] h R H' := by
  unfold f_State_begin_b48 at hf
  refine xs_aload_n d45_48 rfl ?_
  refine xe_getc (j := i1) d45_49 ky45 fl49 fk8_8 (by omega) ?_
  refine xs_iconst (v := 0) d45_52 (by decide) ?_
  refine xs_aload_n d45_53 rfl ?_
  refine xe_getc (j := i0) d45_54 ky45 fl84 fk6_5 (by omega) ?_
  refine xs_iconst (v := 0) d45_57 (by decide) ?_
  refine xs_bipush (v := 8) d45_58 (by decide) ?_
  obtain ⟨hin6, hf⟩ := lk_g hf
  obtain ⟨h7, eh7, hf⟩ := lk_let hf
  refine xe_copy d45_60 ky45 cp6_43 cpw (by decide) ak40 (by decide) ak30 hin6 (Nat.le_of_ble_eq_true rfl) (by omega) eh7 ?_
  refine xs_aload_n d45_63 rfl ?_
  refine xe_getc (j := i1) d45_64 ky45 fl38 fk8_5 (by omega) ?_
  refine xs_iconst (v := 0) d45_67 (by decide) ?_
  refine xs_aload_n d45_68 rfl ?_
  refine xe_getc (j := i0) d45_69 ky45 fl87 fk6_6 (by omega) ?_
  refine xs_iconst (v := 0) d45_72 (by decide) ?_
  refine xs_bipush (v := 8) d45_73 (by decide) ?_
  obtain ⟨hin8, hf⟩ := lk_g hf
  obtain ⟨h9, eh9, hf⟩ := lk_let hf
  refine xe_copy d45_75 ky45 cp6_43 cpw (by decide) ak37 (by decide) ak31 hin8 (Nat.le_of_ble_eq_true rfl) (by omega) eh9 ?_
  refine xs_aload_n d45_78 rfl ?_
  refine xe_getc (j := i1) d45_79 ky45 fl41 fk8_6 (by omega) ?_
  refine xs_iconst (v := 0) d45_82 (by decide) ?_
  refine xs_aload_n d45_83 rfl ?_
  refine xe_getc (j := i0) d45_84 ky45 fl91 fk6_7 (by omega) ?_
  refine xs_iconst (v := 0) d45_87 (by decide) ?_
  refine xs_bipush (v := 8) d45_88 (by decide) ?_
  obtain ⟨hin10, hf⟩ := lk_g hf
  obtain ⟨h11, eh11, hf⟩ := lk_let hf
  refine xe_copy d45_90 ky45 cp6_43 cpw (by decide) ak38 (by decide) ak32 hin10 (Nat.le_of_ble_eq_true rfl) (by omega) eh11 ?_
  obtain ⟨eR, eH⟩ := K0 _ (Option.some.inj hf).symm
  subst eR; subst eH
  exact xs_vret d45_93 rt45
noncomputable def f_State_begin_s29 (i0 : Nat) (i1 : Nat) (v2 : Int32) (h : xH) : Option ((Int32 × xH) ⊕ xH) :=
  if (8 : Int32) ≤ v2 then (
  xup (f_State_begin_b48 i0 i1 h)) else (
  if xib v2 8 then (
  xlet (xsA h 29 i0 (upd (h.2.2.2.1 29 i0) (v2).toNatClampNeg (-1 : Int32))) fun h13 =>
  xlet (v2 + (1 : Int32)) fun v2_14 =>
  some (Sum.inl (v2_14, h13))) else none)
set_option maxHeartbeats 4000000 in
set_option maxRecDepth 100000 in
theorem f_State_begin_s29_ok {g : xG} {l : Launch} {d : Nat} {i0 : Nat} {i1 : Nat} {v2 : Int32} {h : xH} {o : ((Int32 × xH) ⊕ xH)} {R : Option xV} {H' : xH} (hD : 1 ≤ d) (hf : f_State_begin_s29 i0 i1 v2 h = some o) (K1 : ∀ (w2 : Int32) (h1 : xH), o = Sum.inl (w2, h1) → xEv g l d 45 29 [(0, xr 6 (some i0)), (1, xr 8 (some i1)), (2, xi w2)] [] h1 R H') (K0 : ∀ (h1 : xH), o = Sum.inr (h1) → R = none ∧ H' = h1) : xEv g l d 45 29 [(0, xr 6 (some i0)), (1, xr 8 (some i1)), (2, xi v2)] [] h R H' := by
  unfold f_State_begin_s29 at hf
  refine xs_iload_n d45_29 rfl ?_
  refine xs_bipush (v := 8) d45_30 (by decide) ?_
  rcases lk_if hf with ⟨hc5, hf⟩ | ⟨hc5, hf⟩
  · refine xs_icmp_ge (tgt := 48) d45_32 (by decide) (fun _ => ?_) (fun hn => absurd hc5 hn)
    refine xs_pick [0, 1] rfl ?_
    obtain ⟨x0, hf, ex0⟩ := lk_up hf
    exact f_State_begin_b48_ok hD hf (fun u0 e => K0 u0 (ex0.trans (congrArg Sum.inr e)))
  · refine xs_icmp_ge (tgt := 48) d45_32 (by decide) (fun hp => absurd hp hc5) (fun _ => ?_)
    refine xs_aload_n d45_35 rfl ?_
    refine xe_getc (j := i0) d45_36 ky45 fl82 fk6_4 (by omega) ?_
    refine xs_iload_n d45_39 rfl ?_
    refine xs_iconst (v := -1) d45_40 (by decide) ?_
    obtain ⟨hin12, hf⟩ := lk_g hf
    obtain ⟨h13, eh13, hf⟩ := lk_let hf
    refine xe_iast d45_41 (by decide) ak29 hin12  eh13 ?_
    obtain ⟨v2_14, ev2_14, hf⟩ := lk_let hf
    refine xe_iinc (v := v2_14) (b := 1) (ls2 := [(0, xr 6 (some i0)), (1, xr 8 (some i1)), (2, xi v2_14)]) d45_42 mx45 (by decide) rfl (by decide) ev2_14 rfl ?_
    refine xs_goto (tgt := 29) d45_45 (by decide) ?_
    exact K1 _ _ (Option.some.inj hf).symm
noncomputable def f_State_begin_l29 (i0 : Nat) (i1 : Nat) (v2 : Int32) (h : xH) : Option xH :=
  whl (fun s => f_State_begin_s29 i0 i1 s.1 s.2) (v2, h)
theorem f_State_begin_l29_ok {g : xG} {l : Launch} {d : Nat} {i0 : Nat} {i1 : Nat} {v2 : Int32} {h : xH} {o : xH} {R : Option xV} {H' : xH} (hD : 1 ≤ d) (hf : f_State_begin_l29 i0 i1 v2 h = some o) (K0 : ∀ (h1 : xH), o = h1 → R = none ∧ H' = h1) : xEv g l d 45 29 [(0, xr 6 (some i0)), (1, xr 8 (some i1)), (2, xi v2)] [] h R H' := by
  obtain ⟨n, hn⟩ := whl_iff.mp hf
  clear hf
  induction n generalizing v2 h with
  | zero => cases hn
  | succ n ih =>
    obtain ⟨o2, hs, hn⟩ := lk_b (show (f_State_begin_s29 i0 i1 v2 h).bind (fun o => Sum.elim (itn _ n) some o) = some o from hn)
    exact f_State_begin_s29_ok hD hs (fun u0 u1 e => ih (by rw [e] at hn; exact hn)) (fun u0 e => K0 u0 (by rw [e] at hn; exact (Option.some.inj hn).symm))
noncomputable def f_State_begin_e (i0 : Nat) (i1 : Nat) (h : xH) : Option xH :=
  xlet (xsI h 6 0 i0 (0 : Int32)) fun h1 =>
  xlet (xsI h1 6 1 i0 (0 : Int32)) fun h2 =>
  xlet (xsI h2 6 2 i0 (((1 : Int32) <<< ((h2.1 8 3 i1) &&& 31)) - (1 : Int32))) fun h3 =>
  xlet (xsI h3 6 3 i0 (0 : Int32)) fun h4 =>
  f_State_begin_l29 i0 i1 (0 : Int32) h4
set_option maxHeartbeats 4000000 in
set_option maxRecDepth 100000 in
theorem f_State_begin_e_ok {g : xG} {l : Launch} {d : Nat} {i0 : Nat} {i1 : Nat} {h : xH} {o : xH} {R : Option xV} {H' : xH} (hD : 1 ≤ d) (hf : f_State_begin_e i0 i1 h = some o) (K0 : ∀ (h1 : xH), o = h1 → R = none ∧ H' = h1) : xEv g l d 45 0 [(0, xr 6 (some i0)), (1, xr 8 (some i1))] [] h R H' := by
  unfold f_State_begin_e at hf
  refine xs_aload_n d45_0 rfl ?_
  refine xs_iconst (v := 0) d45_1 (by decide) ?_
  obtain ⟨h1, eh1, hf⟩ := lk_let hf
  refine xe_puti d45_2 ky45 fl67 fk6_0 ft6_0 eh1 ?_
  refine xs_aload_n d45_5 rfl ?_
  refine xs_iconst (v := 0) d45_6 (by decide) ?_
  obtain ⟨h2, eh2, hf⟩ := lk_let hf
  refine xe_puti d45_7 ky45 fl71 fk6_1 ft6_1 eh2 ?_
  refine xs_aload_n d45_10 rfl ?_
  refine xs_iconst (v := 1) d45_11 (by decide) ?_
  refine xs_aload_n d45_12 rfl ?_
  refine xe_geti d45_13 ky45 fl29 fk8_3 ?_
  refine xs_ishl d45_16 ?_
  refine xs_iconst (v := 1) d45_17 (by decide) ?_
  refine xs_isub d45_18 ?_
  obtain ⟨h3, eh3, hf⟩ := lk_let hf
  refine xe_puti d45_19 ky45 fl74 fk6_2 ft6_2 eh3 ?_
  refine xs_aload_n d45_22 rfl ?_
  refine xs_iconst (v := 0) d45_23 (by decide) ?_
  obtain ⟨h4, eh4, hf⟩ := lk_let hf
  refine xe_puti d45_24 ky45 fl79 fk6_3 ft6_3 eh4 ?_
  refine xs_iconst (v := 0) d45_27 (by decide) ?_
  refine xe_istore_n (v := (0 : Int32)) (ls2 := [(0, xr 6 (some i0)), (1, xr 8 (some i1)), (2, xi (0 : Int32))]) d45_28 mx45 (by decide) rfl rfl ?_
  exact f_State_begin_l29_ok hD hf K0
noncomputable def f_State_begin (i0 : Nat) (i1 : Nat) (h : xH) : Option xH := f_State_begin_e i0 i1 h
theorem f_State_begin_ok {g : xG} {l : Launch} {d : Nat} {i0 : Nat} {i1 : Nat} {h : xH} {h1 : xH} (hD : 1 ≤ d) (hf : f_State_begin i0 i1 h = some h1) : xC g l d 45 [xr 6 (some i0), xr 8 (some i1)] h none h1 :=
  xC_of2 (by decide) mx45 (Nat.le_of_ble_eq_true rfl) (f_State_begin_e_ok hD hf (fun _ e => ⟨rfl, e⟩))
theorem d48_0 : decode (xcode 48) 0 = .ok (.iload_n 1, 1) := by decide +kernel
theorem d48_1 : decode (xcode 48) 1 = .ok (.ifCond .lt 24, 3) := by decide +kernel
theorem d48_4 : decode (xcode 48) 4 = .ok (.iload_n 1, 1) := by decide +kernel
theorem d48_5 : decode (xcode 48) 5 = .ok (.bipush 8, 2) := by decide +kernel
theorem d48_7 : decode (xcode 48) 7 = .ok (.if_icmp .ge 18, 3) := by decide +kernel
theorem d48_10 : decode (xcode 48) 10 = .ok (.aload_n 0, 1) := by decide +kernel
theorem d48_11 : decode (xcode 48) 11 = .ok (.getfield 39, 3) := by decide +kernel
theorem d48_14 : decode (xcode 48) 14 = .ok (.iload_n 1, 1) := by decide +kernel
theorem d48_15 : decode (xcode 48) 15 = .ok (.ishr, 1) := by decide +kernel
theorem d48_16 : decode (xcode 48) 16 = .ok (.iconst 1, 1) := by decide +kernel
theorem d48_17 : decode (xcode 48) 17 = .ok (.iand, 1) := by decide +kernel
theorem d48_18 : decode (xcode 48) 18 = .ok (.ifCond .eq 7, 3) := by decide +kernel
theorem d48_21 : decode (xcode 48) 21 = .ok (.iconst 1, 1) := by decide +kernel
theorem d48_22 : decode (xcode 48) 22 = .ok (.goto 4, 3) := by decide +kernel
theorem d48_25 : decode (xcode 48) 25 = .ok (.iconst 0, 1) := by decide +kernel
theorem d48_26 : decode (xcode 48) 26 = .ok (.ireturn, 1) := by decide +kernel
noncomputable def f_State_isLetBe_e (i0 : Nat) (v1 : Int32) (h : xH) : Option Int32 :=
  if v1 < (0 : Int32) then (
  some ((0 : Int32))) else (
  if (8 : Int32) ≤ v1 then (
  some ((0 : Int32))) else (
  if (((h.1 6 3 i0) >>> (v1 &&& 31)) &&& (1 : Int32)) = (0 : Int32) then (
  some ((0 : Int32))) else (
  some ((1 : Int32)))))
set_option maxHeartbeats 4000000 in
set_option maxRecDepth 100000 in
theorem f_State_isLetBe_e_ok {g : xG} {l : Launch} {d : Nat} {i0 : Nat} {v1 : Int32} {h : xH} {o : Int32} {R : Option xV} (hD : 0 ≤ d) (hf : f_State_isLetBe_e i0 v1 h = some o) (K0 : ∀ (a : Int32), o = a → R = some (xi a)) : xEv g l d 48 0 [(0, xr 6 (some i0)), (1, xi v1)] [] h R h := by
  unfold f_State_isLetBe_e at hf
  refine xs_iload_n d48_0 rfl ?_
  rcases lk_if hf with ⟨hc1, hf⟩ | ⟨hc1, hf⟩
  · refine xs_if_lt (tgt := 25) d48_1 (by decide) (fun _ => ?_) (fun hn => absurd hc1 hn)
    refine xs_iconst (v := 0) d48_25 (by decide) ?_
    obtain eR := K0 _ (Option.some.inj hf).symm
    subst eR
    exact xe_zret d48_26 (Or.inl rfl) rt48
  · refine xs_if_lt (tgt := 25) d48_1 (by decide) (fun hp => absurd hp hc1) (fun _ => ?_)
    refine xs_iload_n d48_4 rfl ?_
    refine xs_bipush (v := 8) d48_5 (by decide) ?_
    rcases lk_if hf with ⟨hc2, hf⟩ | ⟨hc2, hf⟩
    · refine xs_icmp_ge (tgt := 25) d48_7 (by decide) (fun _ => ?_) (fun hn => absurd hc2 hn)
      refine xs_iconst (v := 0) d48_25 (by decide) ?_
      obtain eR := K0 _ (Option.some.inj hf).symm
      subst eR
      exact xe_zret d48_26 (Or.inl rfl) rt48
    · refine xs_icmp_ge (tgt := 25) d48_7 (by decide) (fun hp => absurd hp hc2) (fun _ => ?_)
      refine xs_aload_n d48_10 rfl ?_
      refine xe_geti d48_11 ky48 fl79 fk6_3 ?_
      refine xs_iload_n d48_14 rfl ?_
      refine xs_ishr d48_15 ?_
      refine xs_iconst (v := 1) d48_16 (by decide) ?_
      refine xs_iand d48_17 ?_
      rcases lk_if hf with ⟨hc3, hf⟩ | ⟨hc3, hf⟩
      · refine xs_if_eq (tgt := 25) d48_18 (by decide) (fun _ => ?_) (fun hn => absurd hc3 hn)
        refine xs_iconst (v := 0) d48_25 (by decide) ?_
        obtain eR := K0 _ (Option.some.inj hf).symm
        subst eR
        exact xe_zret d48_26 (Or.inl rfl) rt48
      · refine xs_if_eq (tgt := 25) d48_18 (by decide) (fun hp => absurd hp hc3) (fun _ => ?_)
        refine xs_iconst (v := 1) d48_21 (by decide) ?_
        refine xs_goto (tgt := 26) d48_22 (by decide) ?_
        obtain eR := K0 _ (Option.some.inj hf).symm
        subst eR
        exact xe_zret d48_26 (Or.inr rfl) rt48
noncomputable def f_State_isLetBe (i0 : Nat) (v1 : Int32) (h : xH) : Option Int32 := f_State_isLetBe_e i0 v1 h
theorem f_State_isLetBe_ok {g : xG} {l : Launch} {d : Nat} {i0 : Nat} {v1 : Int32} {h : xH} {r : Int32} (hD : 0 ≤ d) (hf : f_State_isLetBe i0 v1 h = some r) : xC g l d 48 [xr 6 (some i0), xi v1] h (some (xi r)) h :=
  xC_of2 (by decide) mx48 (Nat.le_of_ble_eq_true rfl) (f_State_isLetBe_e_ok hD hf (fun _ e => by rw [e]))
theorem d49_0 : decode (xcode 49) 0 = .ok (.aload_n 0, 1) := by decide +kernel
theorem d49_1 : decode (xcode 49) 1 = .ok (.iload_n 1, 1) := by decide +kernel
theorem d49_2 : decode (xcode 49) 2 = .ok (.invokevirtual 51, 3) := by decide +kernel
theorem d49_5 : decode (xcode 49) 5 = .ok (.ifCond .eq 21, 3) := by decide +kernel
theorem d49_8 : decode (xcode 49) 8 = .ok (.aload_n 0, 1) := by decide +kernel
theorem d49_9 : decode (xcode 49) 9 = .ok (.getfield 15, 3) := by decide +kernel
theorem d49_12 : decode (xcode 49) 12 = .ok (.iload_n 1, 1) := by decide +kernel
theorem d49_13 : decode (xcode 49) 13 = .ok (.iaload, 1) := by decide +kernel
theorem d49_14 : decode (xcode 49) 14 = .ok (.aload_n 0, 1) := by decide +kernel
theorem d49_15 : decode (xcode 49) 15 = .ok (.getfield 36, 3) := by decide +kernel
theorem d49_18 : decode (xcode 49) 18 = .ok (.iand, 1) := by decide +kernel
theorem d49_19 : decode (xcode 49) 19 = .ok (.ifCond .ne 7, 3) := by decide +kernel
theorem d49_22 : decode (xcode 49) 22 = .ok (.iconst 1, 1) := by decide +kernel
theorem d49_23 : decode (xcode 49) 23 = .ok (.goto 4, 3) := by decide +kernel
theorem d49_26 : decode (xcode 49) 26 = .ok (.iconst 0, 1) := by decide +kernel
theorem d49_27 : decode (xcode 49) 27 = .ok (.ireturn, 1) := by decide +kernel
noncomputable def f_State_isLoose_e (i0 : Nat) (v1 : Int32) (h : xH) : Option Int32 :=
  (f_State_isIn i0 v1 h).bind fun r1 =>
  if r1 = (0 : Int32) then (
  some ((0 : Int32))) else (
  if xib v1 8 then (
  if ((h.2.2.2.1 30 i0 (v1).toNatClampNeg) &&& (h.1 6 2 i0)) = (0 : Int32) then (
  some ((1 : Int32))) else (
  some ((0 : Int32)))) else none)
set_option maxHeartbeats 4000000 in
set_option maxRecDepth 100000 in
theorem f_State_isLoose_e_ok {g : xG} {l : Launch} {d : Nat} {i0 : Nat} {v1 : Int32} {h : xH} {o : Int32} {R : Option xV} (hD : 1 ≤ d) (hf : f_State_isLoose_e i0 v1 h = some o) (K0 : ∀ (a : Int32), o = a → R = some (xi a)) : xEv g l d 49 0 [(0, xr 6 (some i0)), (1, xi v1)] [] h R h := by
  unfold f_State_isLoose_e at hf
  refine xs_aload_n d49_0 rfl ?_
  refine xs_iload_n d49_1 rfl ?_
  obtain ⟨r1, hc2, hf⟩ := lk_b hf
  refine xe_callv1 (as := [xi v1]) (st := []) (h2 := h) (d2 := d - 1) d49_2 ky49 ml60 st47 (by decide) cn47 rfl na47 (Nat.le_of_ble_eq_true rfl) (by omega) (f_State_isIn_ok (by omega) hc2) ?_
  rcases lk_if hf with ⟨hc3, hf⟩ | ⟨hc3, hf⟩
  · refine xs_if_eq (tgt := 26) d49_5 (by decide) (fun _ => ?_) (fun hn => absurd hc3 hn)
    refine xs_iconst (v := 0) d49_26 (by decide) ?_
    obtain eR := K0 _ (Option.some.inj hf).symm
    subst eR
    exact xe_zret d49_27 (Or.inl rfl) rt49
  · refine xs_if_eq (tgt := 26) d49_5 (by decide) (fun hp => absurd hp hc3) (fun _ => ?_)
    refine xs_aload_n d49_8 rfl ?_
    refine xe_getc (j := i0) d49_9 ky49 fl84 fk6_5 (by omega) ?_
    refine xs_iload_n d49_12 rfl ?_
    obtain ⟨hin4, hf⟩ := lk_g hf
    refine xe_iald d49_13 (by decide) ak30 hin4 ?_
    refine xs_aload_n d49_14 rfl ?_
    refine xe_geti d49_15 ky49 fl74 fk6_2 ?_
    refine xs_iand d49_18 ?_
    rcases lk_if hf with ⟨hc5, hf⟩ | ⟨hc5, hf⟩
    · refine xs_if_ne (tgt := 26) d49_19 (by decide) (fun _ => ?_) (fun hn => absurd hc5 hn)
      refine xs_iconst (v := 1) d49_22 (by decide) ?_
      refine xs_goto (tgt := 27) d49_23 (by decide) ?_
      obtain eR := K0 _ (Option.some.inj hf).symm
      subst eR
      exact xe_zret d49_27 (Or.inr rfl) rt49
    · refine xs_if_ne (tgt := 26) d49_19 (by decide) (fun hp => absurd hp hc5) (fun _ => ?_)
      refine xs_iconst (v := 0) d49_26 (by decide) ?_
      obtain eR := K0 _ (Option.some.inj hf).symm
      subst eR
      exact xe_zret d49_27 (Or.inl rfl) rt49
noncomputable def f_State_isLoose (i0 : Nat) (v1 : Int32) (h : xH) : Option Int32 := f_State_isLoose_e i0 v1 h
theorem f_State_isLoose_ok {g : xG} {l : Launch} {d : Nat} {i0 : Nat} {v1 : Int32} {h : xH} {r : Int32} (hD : 1 ≤ d) (hf : f_State_isLoose i0 v1 h = some r) : xC g l d 49 [xr 6 (some i0), xi v1] h (some (xi r)) h :=
  xC_of2 (by decide) mx49 (Nat.le_of_ble_eq_true rfl) (f_State_isLoose_e_ok hD hf (fun _ e => by rw [e]))
theorem d50_0 : decode (xcode 50) 0 = .ok (.aload_n 0, 1) := by decide +kernel
theorem d50_1 : decode (xcode 50) 1 = .ok (.iload_n 1, 1) := by decide +kernel
theorem d50_2 : decode (xcode 50) 2 = .ok (.invokevirtual 51, 3) := by decide +kernel
theorem d50_5 : decode (xcode 50) 5 = .ok (.ifCond .eq 7, 3) := by decide +kernel
theorem d50_8 : decode (xcode 50) 8 = .ok (.iconst 0, 1) := by decide +kernel
theorem d50_9 : decode (xcode 50) 9 = .ok (.goto 16, 3) := by decide +kernel
theorem d50_12 : decode (xcode 50) 12 = .ok (.aload_n 0, 1) := by decide +kernel
theorem d50_13 : decode (xcode 50) 13 = .ok (.iload_n 1, 1) := by decide +kernel
theorem d50_14 : decode (xcode 50) 14 = .ok (.invokevirtual 55, 3) := by decide +kernel
theorem d50_17 : decode (xcode 50) 17 = .ok (.ifCond .eq 7, 3) := by decide +kernel
theorem d50_20 : decode (xcode 50) 20 = .ok (.iconst 1, 1) := by decide +kernel
theorem d50_21 : decode (xcode 50) 21 = .ok (.goto 4, 3) := by decide +kernel
theorem d50_24 : decode (xcode 50) 24 = .ok (.iconst 2, 1) := by decide +kernel
theorem d50_25 : decode (xcode 50) 25 = .ok (.ireturn, 1) := by decide +kernel
noncomputable def f_State_standing_e (i0 : Nat) (v1 : Int32) (h : xH) : Option Int32 :=
  (f_State_isIn i0 v1 h).bind fun r1 =>
  if r1 = (0 : Int32) then (
  (f_State_isLetBe i0 v1 h).bind fun r4 =>
  if r4 = (0 : Int32) then (
  some ((2 : Int32))) else (
  some ((1 : Int32)))) else (
  some ((0 : Int32)))
set_option maxHeartbeats 4000000 in
set_option maxRecDepth 100000 in
theorem f_State_standing_e_ok {g : xG} {l : Launch} {d : Nat} {i0 : Nat} {v1 : Int32} {h : xH} {o : Int32} {R : Option xV} (hD : 1 ≤ d) (hf : f_State_standing_e i0 v1 h = some o) (K0 : ∀ (a : Int32), o = a → R = some (xi a)) : xEv g l d 50 0 [(0, xr 6 (some i0)), (1, xi v1)] [] h R h := by
  unfold f_State_standing_e at hf
  refine xs_aload_n d50_0 rfl ?_
  refine xs_iload_n d50_1 rfl ?_
  obtain ⟨r1, hc2, hf⟩ := lk_b hf
  refine xe_callv1 (as := [xi v1]) (st := []) (h2 := h) (d2 := d - 1) d50_2 ky50 ml60 st47 (by decide) cn47 rfl na47 (Nat.le_of_ble_eq_true rfl) (by omega) (f_State_isIn_ok (by omega) hc2) ?_
  rcases lk_if hf with ⟨hc3, hf⟩ | ⟨hc3, hf⟩
  · refine xs_if_eq (tgt := 12) d50_5 (by decide) (fun _ => ?_) (fun hn => absurd hc3 hn)
    refine xs_aload_n d50_12 rfl ?_
    refine xs_iload_n d50_13 rfl ?_
    obtain ⟨r4, hc5, hf⟩ := lk_b hf
    refine xe_callv1 (as := [xi v1]) (st := []) (h2 := h) (d2 := d - 1) d50_14 ky50 ml61 st48 (by decide) cn48 rfl na48 (Nat.le_of_ble_eq_true rfl) (by omega) (f_State_isLetBe_ok (by omega) hc5) ?_
    rcases lk_if hf with ⟨hc6, hf⟩ | ⟨hc6, hf⟩
    · refine xs_if_eq (tgt := 24) d50_17 (by decide) (fun _ => ?_) (fun hn => absurd hc6 hn)
      refine xs_iconst (v := 2) d50_24 (by decide) ?_
      obtain eR := K0 _ (Option.some.inj hf).symm
      subst eR
      exact xs_iret d50_25 rt50
    · refine xs_if_eq (tgt := 24) d50_17 (by decide) (fun hp => absurd hp hc6) (fun _ => ?_)
      refine xs_iconst (v := 1) d50_20 (by decide) ?_
      refine xs_goto (tgt := 25) d50_21 (by decide) ?_
      obtain eR := K0 _ (Option.some.inj hf).symm
      subst eR
      exact xs_iret d50_25 rt50
  · refine xs_if_eq (tgt := 12) d50_5 (by decide) (fun hp => absurd hp hc3) (fun _ => ?_)
    refine xs_iconst (v := 0) d50_8 (by decide) ?_
    refine xs_goto (tgt := 25) d50_9 (by decide) ?_
    obtain eR := K0 _ (Option.some.inj hf).symm
    subst eR
    exact xs_iret d50_25 rt50
noncomputable def f_State_standing (i0 : Nat) (v1 : Int32) (h : xH) : Option Int32 := f_State_standing_e i0 v1 h
theorem f_State_standing_ok {g : xG} {l : Launch} {d : Nat} {i0 : Nat} {v1 : Int32} {h : xH} {r : Int32} (hD : 1 ≤ d) (hf : f_State_standing i0 v1 h = some r) : xC g l d 50 [xr 6 (some i0), xi v1] h (some (xi r)) h :=
  xC_of2 (by decide) mx50 (Nat.le_of_ble_eq_true rfl) (f_State_standing_e_ok hD hf (fun _ e => by rw [e]))
theorem d51_0 : decode (xcode 51) 0 = .ok (.iconst 0, 1) := by decide +kernel
theorem d51_1 : decode (xcode 51) 1 = .ok (.istore_n 1, 1) := by decide +kernel
theorem d51_2 : decode (xcode 51) 2 = .ok (.iconst 0, 1) := by decide +kernel
theorem d51_3 : decode (xcode 51) 3 = .ok (.istore_n 2, 1) := by decide +kernel
theorem d51_4 : decode (xcode 51) 4 = .ok (.iload_n 2, 1) := by decide +kernel
theorem d51_5 : decode (xcode 51) 5 = .ok (.bipush 8, 2) := by decide +kernel
theorem d51_7 : decode (xcode 51) 7 = .ok (.if_icmp .ge 23, 3) := by decide +kernel
theorem d51_10 : decode (xcode 51) 10 = .ok (.aload_n 0, 1) := by decide +kernel
theorem d51_11 : decode (xcode 51) 11 = .ok (.iload_n 2, 1) := by decide +kernel
theorem d51_12 : decode (xcode 51) 12 = .ok (.invokevirtual 58, 3) := by decide +kernel
theorem d51_15 : decode (xcode 51) 15 = .ok (.ifCond .eq 9, 3) := by decide +kernel
theorem d51_18 : decode (xcode 51) 18 = .ok (.iload_n 1, 1) := by decide +kernel
theorem d51_19 : decode (xcode 51) 19 = .ok (.iconst 1, 1) := by decide +kernel
theorem d51_20 : decode (xcode 51) 20 = .ok (.iload_n 2, 1) := by decide +kernel
theorem d51_21 : decode (xcode 51) 21 = .ok (.ishl, 1) := by decide +kernel
theorem d51_22 : decode (xcode 51) 22 = .ok (.ior, 1) := by decide +kernel
theorem d51_23 : decode (xcode 51) 23 = .ok (.istore_n 1, 1) := by decide +kernel
theorem d51_24 : decode (xcode 51) 24 = .ok (.iinc 2 1, 3) := by decide +kernel
theorem d51_27 : decode (xcode 51) 27 = .ok (.goto (-23), 3) := by decide +kernel
theorem d51_30 : decode (xcode 51) 30 = .ok (.iload_n 1, 1) := by decide +kernel
theorem d51_31 : decode (xcode 51) 31 = .ok (.ireturn, 1) := by decide +kernel
noncomputable def f_State_looseBits_b24 (i0 : Nat) (v1 : Int32) (v2 : Int32) (h : xH) : Option ((Int32 × Int32) ⊕ Int32) :=
  xlet (v2 + (1 : Int32)) fun v2_5 =>
  some (Sum.inl (v1, v2_5))
set_option maxHeartbeats 4000000 in
set_option maxRecDepth 100000 in
theorem f_State_looseBits_b24_ok {g : xG} {l : Launch} {d : Nat} {i0 : Nat} {v1 : Int32} {v2 : Int32} {h : xH} {o : ((Int32 × Int32) ⊕ Int32)} {R : Option xV} (hD : 2 ≤ d) (hf : f_State_looseBits_b24 i0 v1 v2 h = some o) (K1 : ∀ (w1 : Int32) (w2 : Int32), o = Sum.inl (w1, w2) → xEv g l d 51 4 [(0, xr 6 (some i0)), (1, xi w1), (2, xi w2)] [] h R h) (K0 : ∀ (a : Int32), o = Sum.inr (a) → R = some (xi a)) : xEv g l d 51 24 [(0, xr 6 (some i0)), (1, xi v1), (2, xi v2)] [] h R h := by
  unfold f_State_looseBits_b24 at hf
  obtain ⟨v2_5, ev2_5, hf⟩ := lk_let hf
  refine xe_iinc (v := v2_5) (b := 1) (ls2 := [(0, xr 6 (some i0)), (1, xi v1), (2, xi v2_5)]) d51_24 mx51 (by decide) rfl (by decide) ev2_5 rfl ?_
  refine xs_goto (tgt := 4) d51_27 (by decide) ?_
  exact K1 _ _ (Option.some.inj hf).symm
noncomputable def f_State_looseBits_s4 (i0 : Nat) (v1 : Int32) (v2 : Int32) (h : xH) : Option ((Int32 × Int32) ⊕ Int32) :=
  if (8 : Int32) ≤ v2 then (
  some (Sum.inr (v1))) else (
  (f_State_isLoose i0 v2 h).bind fun r2 =>
  if r2 = (0 : Int32) then (
  f_State_looseBits_b24 i0 v1 v2 h) else (
  xlet (v1 ||| ((1 : Int32) <<< (v2 &&& 31))) fun v1_6 =>
  f_State_looseBits_b24 i0 v1_6 v2 h))
set_option maxHeartbeats 4000000 in
set_option maxRecDepth 100000 in
theorem f_State_looseBits_s4_ok {g : xG} {l : Launch} {d : Nat} {i0 : Nat} {v1 : Int32} {v2 : Int32} {h : xH} {o : ((Int32 × Int32) ⊕ Int32)} {R : Option xV} (hD : 2 ≤ d) (hf : f_State_looseBits_s4 i0 v1 v2 h = some o) (K1 : ∀ (w1 : Int32) (w2 : Int32), o = Sum.inl (w1, w2) → xEv g l d 51 4 [(0, xr 6 (some i0)), (1, xi w1), (2, xi w2)] [] h R h) (K0 : ∀ (a : Int32), o = Sum.inr (a) → R = some (xi a)) : xEv g l d 51 4 [(0, xr 6 (some i0)), (1, xi v1), (2, xi v2)] [] h R h := by
  unfold f_State_looseBits_s4 at hf
  refine xs_iload_n d51_4 rfl ?_
  refine xs_bipush (v := 8) d51_5 (by decide) ?_
  rcases lk_if hf with ⟨hc1, hf⟩ | ⟨hc1, hf⟩
  · refine xs_icmp_ge (tgt := 30) d51_7 (by decide) (fun _ => ?_) (fun hn => absurd hc1 hn)
    refine xs_iload_n d51_30 rfl ?_
    obtain eR := K0 _ (Option.some.inj hf).symm
    subst eR
    exact xs_iret d51_31 rt51
  · refine xs_icmp_ge (tgt := 30) d51_7 (by decide) (fun hp => absurd hp hc1) (fun _ => ?_)
    refine xs_aload_n d51_10 rfl ?_
    refine xs_iload_n d51_11 rfl ?_
    obtain ⟨r2, hc3, hf⟩ := lk_b hf
    refine xe_callv1 (as := [xi v2]) (st := []) (h2 := h) (d2 := d - 1) d51_12 ky51 ml74 st49 (by decide) cn49 rfl na49 (Nat.le_of_ble_eq_true rfl) (by omega) (f_State_isLoose_ok (by omega) hc3) ?_
    rcases lk_if hf with ⟨hc4, hf⟩ | ⟨hc4, hf⟩
    · refine xs_if_eq (tgt := 24) d51_15 (by decide) (fun _ => ?_) (fun hn => absurd hc4 hn)
      exact f_State_looseBits_b24_ok hD hf K1 K0
    · refine xs_if_eq (tgt := 24) d51_15 (by decide) (fun hp => absurd hp hc4) (fun _ => ?_)
      refine xs_iload_n d51_18 rfl ?_
      refine xs_iconst (v := 1) d51_19 (by decide) ?_
      refine xs_iload_n d51_20 rfl ?_
      refine xs_ishl d51_21 ?_
      refine xs_ior d51_22 ?_
      obtain ⟨v1_6, ev1_6, hf⟩ := lk_let hf
      refine xe_istore_n (v := v1_6) (ls2 := [(0, xr 6 (some i0)), (1, xi v1_6), (2, xi v2)]) d51_23 mx51 (by decide) ev1_6 rfl ?_
      exact f_State_looseBits_b24_ok hD hf K1 K0
noncomputable def f_State_looseBits_l4 (i0 : Nat) (v1 : Int32) (v2 : Int32) (h : xH) : Option Int32 :=
  whl (fun s => f_State_looseBits_s4 i0 s.1 s.2 h) (v1, v2)
theorem f_State_looseBits_l4_ok {g : xG} {l : Launch} {d : Nat} {i0 : Nat} {v1 : Int32} {v2 : Int32} {h : xH} {o : Int32} {R : Option xV} (hD : 2 ≤ d) (hf : f_State_looseBits_l4 i0 v1 v2 h = some o) (K0 : ∀ (a : Int32), o = a → R = some (xi a)) : xEv g l d 51 4 [(0, xr 6 (some i0)), (1, xi v1), (2, xi v2)] [] h R h := by
  obtain ⟨n, hn⟩ := whl_iff.mp hf
  clear hf
  induction n generalizing v1 v2 with
  | zero => cases hn
  | succ n ih =>
    obtain ⟨o2, hs, hn⟩ := lk_b (show (f_State_looseBits_s4 i0 v1 v2 h).bind (fun o => Sum.elim (itn _ n) some o) = some o from hn)
    exact f_State_looseBits_s4_ok hD hs (fun u0 u1 e => ih (by rw [e] at hn; exact hn)) (fun u0 e => K0 u0 (by rw [e] at hn; exact (Option.some.inj hn).symm))
noncomputable def f_State_looseBits_e (i0 : Nat) (h : xH) : Option Int32 :=
  f_State_looseBits_l4 i0 (0 : Int32) (0 : Int32) h
set_option maxHeartbeats 4000000 in
set_option maxRecDepth 100000 in
theorem f_State_looseBits_e_ok {g : xG} {l : Launch} {d : Nat} {i0 : Nat} {h : xH} {o : Int32} {R : Option xV} (hD : 2 ≤ d) (hf : f_State_looseBits_e i0 h = some o) (K0 : ∀ (a : Int32), o = a → R = some (xi a)) : xEv g l d 51 0 [(0, xr 6 (some i0))] [] h R h := by
  unfold f_State_looseBits_e at hf
  refine xs_iconst (v := 0) d51_0 (by decide) ?_
  refine xe_istore_n (v := (0 : Int32)) (ls2 := [(0, xr 6 (some i0)), (1, xi (0 : Int32))]) d51_1 mx51 (by decide) rfl rfl ?_
  refine xs_iconst (v := 0) d51_2 (by decide) ?_
  refine xe_istore_n (v := (0 : Int32)) (ls2 := [(0, xr 6 (some i0)), (1, xi (0 : Int32)), (2, xi (0 : Int32))]) d51_3 mx51 (by decide) rfl rfl ?_
  exact f_State_looseBits_l4_ok hD hf K0
noncomputable def f_State_looseBits (i0 : Nat) (h : xH) : Option Int32 := f_State_looseBits_e i0 h
theorem f_State_looseBits_ok {g : xG} {l : Launch} {d : Nat} {i0 : Nat} {h : xH} {r : Int32} (hD : 2 ≤ d) (hf : f_State_looseBits i0 h = some r) : xC g l d 51 [xr 6 (some i0)] h (some (xi r)) h :=
  xC_of2 (by decide) mx51 (Nat.le_of_ble_eq_true rfl) (f_State_looseBits_e_ok hD hf (fun _ e => by rw [e]))
theorem d52_0 : decode (xcode 52) 0 = .ok (.iload_n 1, 1) := by decide +kernel
theorem d52_1 : decode (xcode 52) 1 = .ok (.istore_n 2, 1) := by decide +kernel
theorem d52_2 : decode (xcode 52) 2 = .ok (.iconst 0, 1) := by decide +kernel
theorem d52_3 : decode (xcode 52) 3 = .ok (.istore_n 3, 1) := by decide +kernel
theorem d52_4 : decode (xcode 52) 4 = .ok (.iload_n 3, 1) := by decide +kernel
theorem d52_5 : decode (xcode 52) 5 = .ok (.bipush 8, 2) := by decide +kernel
theorem d52_7 : decode (xcode 52) 7 = .ok (.if_icmp .ge 29, 3) := by decide +kernel
theorem d52_10 : decode (xcode 52) 10 = .ok (.aload_n 0, 1) := by decide +kernel
theorem d52_11 : decode (xcode 52) 11 = .ok (.getfield 36, 3) := by decide +kernel
theorem d52_14 : decode (xcode 52) 14 = .ok (.iload_n 3, 1) := by decide +kernel
theorem d52_15 : decode (xcode 52) 15 = .ok (.ishr, 1) := by decide +kernel
theorem d52_16 : decode (xcode 52) 16 = .ok (.iconst 1, 1) := by decide +kernel
theorem d52_17 : decode (xcode 52) 17 = .ok (.iand, 1) := by decide +kernel
theorem d52_18 : decode (xcode 52) 18 = .ok (.ifCond .eq 12, 3) := by decide +kernel
theorem d52_21 : decode (xcode 52) 21 = .ok (.iload_n 2, 1) := by decide +kernel
theorem d52_22 : decode (xcode 52) 22 = .ok (.aload_n 0, 1) := by decide +kernel
theorem d52_23 : decode (xcode 52) 23 = .ok (.getfield 18, 3) := by decide +kernel
theorem d52_26 : decode (xcode 52) 26 = .ok (.iload_n 3, 1) := by decide +kernel
theorem d52_27 : decode (xcode 52) 27 = .ok (.iaload, 1) := by decide +kernel
theorem d52_28 : decode (xcode 52) 28 = .ok (.iadd, 1) := by decide +kernel
theorem d52_29 : decode (xcode 52) 29 = .ok (.istore_n 2, 1) := by decide +kernel
theorem d52_30 : decode (xcode 52) 30 = .ok (.iinc 3 1, 3) := by decide +kernel
theorem d52_33 : decode (xcode 52) 33 = .ok (.goto (-29), 3) := by decide +kernel
theorem d52_36 : decode (xcode 52) 36 = .ok (.iload_n 2, 1) := by decide +kernel
theorem d52_37 : decode (xcode 52) 37 = .ok (.ireturn, 1) := by decide +kernel
noncomputable def f_State_load_b30 (i0 : Nat) (v2 : Int32) (v3 : Int32) (h : xH) : Option ((Int32 × Int32) ⊕ Int32) :=
  xlet (v3 + (1 : Int32)) fun v3_3 =>
  some (Sum.inl (v2, v3_3))
set_option maxHeartbeats 4000000 in
set_option maxRecDepth 100000 in
theorem f_State_load_b30_ok {g : xG} {l : Launch} {d : Nat} {i0 : Nat} {v2 : Int32} {v3 : Int32} {h : xH} {o : ((Int32 × Int32) ⊕ Int32)} {R : Option xV} (hD : 0 ≤ d) (hf : f_State_load_b30 i0 v2 v3 h = some o) (K1 : ∀ (w2 : Int32) (w3 : Int32), o = Sum.inl (w2, w3) → xEv g l d 52 4 [(0, xr 6 (some i0)), (2, xi w2), (3, xi w3)] [] h R h) (K0 : ∀ (a : Int32), o = Sum.inr (a) → R = some (xi a)) : xEv g l d 52 30 [(0, xr 6 (some i0)), (2, xi v2), (3, xi v3)] [] h R h := by
  unfold f_State_load_b30 at hf
  obtain ⟨v3_3, ev3_3, hf⟩ := lk_let hf
  refine xe_iinc (v := v3_3) (b := 1) (ls2 := [(0, xr 6 (some i0)), (2, xi v2), (3, xi v3_3)]) d52_30 mx52 (by decide) rfl (by decide) ev3_3 rfl ?_
  refine xs_goto (tgt := 4) d52_33 (by decide) ?_
  exact K1 _ _ (Option.some.inj hf).symm
noncomputable def f_State_load_s4 (i0 : Nat) (v2 : Int32) (v3 : Int32) (h : xH) : Option ((Int32 × Int32) ⊕ Int32) :=
  if (8 : Int32) ≤ v3 then (
  some (Sum.inr (v2))) else (
  if (((h.1 6 2 i0) >>> (v3 &&& 31)) &&& (1 : Int32)) = (0 : Int32) then (
  f_State_load_b30 i0 v2 v3 h) else (
  if xib v3 8 then (
  xlet (v2 + (h.2.2.2.1 31 i0 (v3).toNatClampNeg)) fun v2_5 =>
  f_State_load_b30 i0 v2_5 v3 h) else none))
set_option maxHeartbeats 4000000 in
set_option maxRecDepth 100000 in
theorem f_State_load_s4_ok {g : xG} {l : Launch} {d : Nat} {i0 : Nat} {v2 : Int32} {v3 : Int32} {h : xH} {o : ((Int32 × Int32) ⊕ Int32)} {R : Option xV} (hD : 0 ≤ d) (hf : f_State_load_s4 i0 v2 v3 h = some o) (K1 : ∀ (w2 : Int32) (w3 : Int32), o = Sum.inl (w2, w3) → xEv g l d 52 4 [(0, xr 6 (some i0)), (2, xi w2), (3, xi w3)] [] h R h) (K0 : ∀ (a : Int32), o = Sum.inr (a) → R = some (xi a)) : xEv g l d 52 4 [(0, xr 6 (some i0)), (2, xi v2), (3, xi v3)] [] h R h := by
  unfold f_State_load_s4 at hf
  refine xs_iload_n d52_4 rfl ?_
  refine xs_bipush (v := 8) d52_5 (by decide) ?_
  rcases lk_if hf with ⟨hc1, hf⟩ | ⟨hc1, hf⟩
  · refine xs_icmp_ge (tgt := 36) d52_7 (by decide) (fun _ => ?_) (fun hn => absurd hc1 hn)
    refine xs_iload_n d52_36 rfl ?_
    obtain eR := K0 _ (Option.some.inj hf).symm
    subst eR
    exact xs_iret d52_37 rt52
  · refine xs_icmp_ge (tgt := 36) d52_7 (by decide) (fun hp => absurd hp hc1) (fun _ => ?_)
    refine xs_aload_n d52_10 rfl ?_
    refine xe_geti d52_11 ky52 fl74 fk6_2 ?_
    refine xs_iload_n d52_14 rfl ?_
    refine xs_ishr d52_15 ?_
    refine xs_iconst (v := 1) d52_16 (by decide) ?_
    refine xs_iand d52_17 ?_
    rcases lk_if hf with ⟨hc2, hf⟩ | ⟨hc2, hf⟩
    · refine xs_if_eq (tgt := 30) d52_18 (by decide) (fun _ => ?_) (fun hn => absurd hc2 hn)
      exact f_State_load_b30_ok hD hf K1 K0
    · refine xs_if_eq (tgt := 30) d52_18 (by decide) (fun hp => absurd hp hc2) (fun _ => ?_)
      refine xs_iload_n d52_21 rfl ?_
      refine xs_aload_n d52_22 rfl ?_
      refine xe_getc (j := i0) d52_23 ky52 fl87 fk6_6 (by omega) ?_
      refine xs_iload_n d52_26 rfl ?_
      obtain ⟨hin4, hf⟩ := lk_g hf
      refine xe_iald d52_27 (by decide) ak31 hin4 ?_
      refine xs_iadd d52_28 ?_
      obtain ⟨v2_5, ev2_5, hf⟩ := lk_let hf
      refine xe_istore_n (v := v2_5) (ls2 := [(0, xr 6 (some i0)), (2, xi v2_5), (3, xi v3)]) d52_29 mx52 (by decide) ev2_5 rfl ?_
      exact f_State_load_b30_ok hD hf K1 K0
noncomputable def f_State_load_l4 (i0 : Nat) (v2 : Int32) (v3 : Int32) (h : xH) : Option Int32 :=
  whl (fun s => f_State_load_s4 i0 s.1 s.2 h) (v2, v3)
theorem f_State_load_l4_ok {g : xG} {l : Launch} {d : Nat} {i0 : Nat} {v2 : Int32} {v3 : Int32} {h : xH} {o : Int32} {R : Option xV} (hD : 0 ≤ d) (hf : f_State_load_l4 i0 v2 v3 h = some o) (K0 : ∀ (a : Int32), o = a → R = some (xi a)) : xEv g l d 52 4 [(0, xr 6 (some i0)), (2, xi v2), (3, xi v3)] [] h R h := by
  obtain ⟨n, hn⟩ := whl_iff.mp hf
  clear hf
  induction n generalizing v2 v3 with
  | zero => cases hn
  | succ n ih =>
    obtain ⟨o2, hs, hn⟩ := lk_b (show (f_State_load_s4 i0 v2 v3 h).bind (fun o => Sum.elim (itn _ n) some o) = some o from hn)
    exact f_State_load_s4_ok hD hs (fun u0 u1 e => ih (by rw [e] at hn; exact hn)) (fun u0 e => K0 u0 (by rw [e] at hn; exact (Option.some.inj hn).symm))
noncomputable def f_State_load_e (i0 : Nat) (v1 : Int32) (h : xH) : Option Int32 :=
  f_State_load_l4 i0 v1 (0 : Int32) h
set_option maxHeartbeats 4000000 in
set_option maxRecDepth 100000 in
theorem f_State_load_e_ok {g : xG} {l : Launch} {d : Nat} {i0 : Nat} {v1 : Int32} {h : xH} {o : Int32} {R : Option xV} (hD : 0 ≤ d) (hf : f_State_load_e i0 v1 h = some o) (K0 : ∀ (a : Int32), o = a → R = some (xi a)) : xEv g l d 52 0 [(0, xr 6 (some i0)), (1, xi v1)] [] h R h := by
  unfold f_State_load_e at hf
  refine xs_iload_n d52_0 rfl ?_
  refine xe_istore_n (v := v1) (ls2 := [(0, xr 6 (some i0)), (1, xi v1), (2, xi v1)]) d52_1 mx52 (by decide) rfl rfl ?_
  refine xs_iconst (v := 0) d52_2 (by decide) ?_
  refine xe_istore_n (v := (0 : Int32)) (ls2 := [(0, xr 6 (some i0)), (1, xi v1), (2, xi v1), (3, xi (0 : Int32))]) d52_3 mx52 (by decide) rfl rfl ?_
  refine xs_pick [0, 2, 3] rfl ?_
  exact f_State_load_l4_ok hD hf K0
noncomputable def f_State_load (i0 : Nat) (v1 : Int32) (h : xH) : Option Int32 := f_State_load_e i0 v1 h
theorem f_State_load_ok {g : xG} {l : Launch} {d : Nat} {i0 : Nat} {v1 : Int32} {h : xH} {r : Int32} (hD : 0 ≤ d) (hf : f_State_load i0 v1 h = some r) : xC g l d 52 [xr 6 (some i0), xi v1] h (some (xi r)) h :=
  xC_of2 (by decide) mx52 (Nat.le_of_ble_eq_true rfl) (f_State_load_e_ok hD hf (fun _ e => by rw [e]))
theorem d53_0 : decode (xcode 53) 0 = .ok (.iconst 0, 1) := by decide +kernel
theorem d53_1 : decode (xcode 53) 1 = .ok (.istore_n 2, 1) := by decide +kernel
theorem d53_2 : decode (xcode 53) 2 = .ok (.iconst 0, 1) := by decide +kernel
theorem d53_3 : decode (xcode 53) 3 = .ok (.istore_n 3, 1) := by decide +kernel
theorem d53_4 : decode (xcode 53) 4 = .ok (.iload_n 3, 1) := by decide +kernel
theorem d53_5 : decode (xcode 53) 5 = .ok (.bipush 8, 2) := by decide +kernel
theorem d53_7 : decode (xcode 53) 7 = .ok (.if_icmp .ge 36, 3) := by decide +kernel
theorem d53_10 : decode (xcode 53) 10 = .ok (.aload_n 0, 1) := by decide +kernel
theorem d53_11 : decode (xcode 53) 11 = .ok (.getfield 36, 3) := by decide +kernel
theorem d53_14 : decode (xcode 53) 14 = .ok (.iload_n 3, 1) := by decide +kernel
theorem d53_15 : decode (xcode 53) 15 = .ok (.ishr, 1) := by decide +kernel
theorem d53_16 : decode (xcode 53) 16 = .ok (.iconst 1, 1) := by decide +kernel
theorem d53_17 : decode (xcode 53) 17 = .ok (.iand, 1) := by decide +kernel
theorem d53_18 : decode (xcode 53) 18 = .ok (.ifCond .eq 19, 3) := by decide +kernel
theorem d53_21 : decode (xcode 53) 21 = .ok (.aload_n 0, 1) := by decide +kernel
theorem d53_22 : decode (xcode 53) 22 = .ok (.getfield 15, 3) := by decide +kernel
theorem d53_25 : decode (xcode 53) 25 = .ok (.iload_n 3, 1) := by decide +kernel
theorem d53_26 : decode (xcode 53) 26 = .ok (.iaload, 1) := by decide +kernel
theorem d53_27 : decode (xcode 53) 27 = .ok (.iload_n 1, 1) := by decide +kernel
theorem d53_28 : decode (xcode 53) 28 = .ok (.ishr, 1) := by decide +kernel
theorem d53_29 : decode (xcode 53) 29 = .ok (.iconst 1, 1) := by decide +kernel
theorem d53_30 : decode (xcode 53) 30 = .ok (.iand, 1) := by decide +kernel
theorem d53_31 : decode (xcode 53) 31 = .ok (.ifCond .eq 6, 3) := by decide +kernel
theorem d53_34 : decode (xcode 53) 34 = .ok (.iinc 2 1, 3) := by decide +kernel
theorem d53_37 : decode (xcode 53) 37 = .ok (.iinc 3 1, 3) := by decide +kernel
theorem d53_40 : decode (xcode 53) 40 = .ok (.goto (-36), 3) := by decide +kernel
theorem d53_43 : decode (xcode 53) 43 = .ok (.iload_n 2, 1) := by decide +kernel
theorem d53_44 : decode (xcode 53) 44 = .ok (.ireturn, 1) := by decide +kernel
noncomputable def f_State_overOf_b37 (i0 : Nat) (v1 : Int32) (v2 : Int32) (v3 : Int32) (h : xH) : Option ((Int32 × Int32) ⊕ Int32) :=
  xlet (v3 + (1 : Int32)) fun v3_3 =>
  some (Sum.inl (v2, v3_3))
set_option maxHeartbeats 4000000 in
set_option maxRecDepth 100000 in
theorem f_State_overOf_b37_ok {g : xG} {l : Launch} {d : Nat} {i0 : Nat} {v1 : Int32} {v2 : Int32} {v3 : Int32} {h : xH} {o : ((Int32 × Int32) ⊕ Int32)} {R : Option xV} (hD : 0 ≤ d) (hf : f_State_overOf_b37 i0 v1 v2 v3 h = some o) (K1 : ∀ (w2 : Int32) (w3 : Int32), o = Sum.inl (w2, w3) → xEv g l d 53 4 [(0, xr 6 (some i0)), (1, xi v1), (2, xi w2), (3, xi w3)] [] h R h) (K0 : ∀ (a : Int32), o = Sum.inr (a) → R = some (xi a)) : xEv g l d 53 37 [(0, xr 6 (some i0)), (1, xi v1), (2, xi v2), (3, xi v3)] [] h R h := by
  unfold f_State_overOf_b37 at hf
  obtain ⟨v3_3, ev3_3, hf⟩ := lk_let hf
  refine xe_iinc (v := v3_3) (b := 1) (ls2 := [(0, xr 6 (some i0)), (1, xi v1), (2, xi v2), (3, xi v3_3)]) d53_37 mx53 (by decide) rfl (by decide) ev3_3 rfl ?_
  refine xs_goto (tgt := 4) d53_40 (by decide) ?_
  exact K1 _ _ (Option.some.inj hf).symm
noncomputable def f_State_overOf_s4 (i0 : Nat) (v1 : Int32) (v2 : Int32) (v3 : Int32) (h : xH) : Option ((Int32 × Int32) ⊕ Int32) :=
  if (8 : Int32) ≤ v3 then (
  some (Sum.inr (v2))) else (
  if (((h.1 6 2 i0) >>> (v3 &&& 31)) &&& (1 : Int32)) = (0 : Int32) then (
  f_State_overOf_b37 i0 v1 v2 v3 h) else (
  if xib v3 8 then (
  if (((h.2.2.2.1 30 i0 (v3).toNatClampNeg) >>> (v1 &&& 31)) &&& (1 : Int32)) = (0 : Int32) then (
  f_State_overOf_b37 i0 v1 v2 v3 h) else (
  xlet (v2 + (1 : Int32)) fun v2_6 =>
  f_State_overOf_b37 i0 v1 v2_6 v3 h)) else none))
set_option maxHeartbeats 4000000 in
set_option maxRecDepth 100000 in
theorem f_State_overOf_s4_ok {g : xG} {l : Launch} {d : Nat} {i0 : Nat} {v1 : Int32} {v2 : Int32} {v3 : Int32} {h : xH} {o : ((Int32 × Int32) ⊕ Int32)} {R : Option xV} (hD : 0 ≤ d) (hf : f_State_overOf_s4 i0 v1 v2 v3 h = some o) (K1 : ∀ (w2 : Int32) (w3 : Int32), o = Sum.inl (w2, w3) → xEv g l d 53 4 [(0, xr 6 (some i0)), (1, xi v1), (2, xi w2), (3, xi w3)] [] h R h) (K0 : ∀ (a : Int32), o = Sum.inr (a) → R = some (xi a)) : xEv g l d 53 4 [(0, xr 6 (some i0)), (1, xi v1), (2, xi v2), (3, xi v3)] [] h R h := by
  unfold f_State_overOf_s4 at hf
  refine xs_iload_n d53_4 rfl ?_
  refine xs_bipush (v := 8) d53_5 (by decide) ?_
  rcases lk_if hf with ⟨hc1, hf⟩ | ⟨hc1, hf⟩
  · refine xs_icmp_ge (tgt := 43) d53_7 (by decide) (fun _ => ?_) (fun hn => absurd hc1 hn)
    refine xs_iload_n d53_43 rfl ?_
    obtain eR := K0 _ (Option.some.inj hf).symm
    subst eR
    exact xs_iret d53_44 rt53
  · refine xs_icmp_ge (tgt := 43) d53_7 (by decide) (fun hp => absurd hp hc1) (fun _ => ?_)
    refine xs_aload_n d53_10 rfl ?_
    refine xe_geti d53_11 ky53 fl74 fk6_2 ?_
    refine xs_iload_n d53_14 rfl ?_
    refine xs_ishr d53_15 ?_
    refine xs_iconst (v := 1) d53_16 (by decide) ?_
    refine xs_iand d53_17 ?_
    rcases lk_if hf with ⟨hc2, hf⟩ | ⟨hc2, hf⟩
    · refine xs_if_eq (tgt := 37) d53_18 (by decide) (fun _ => ?_) (fun hn => absurd hc2 hn)
      exact f_State_overOf_b37_ok hD hf K1 K0
    · refine xs_if_eq (tgt := 37) d53_18 (by decide) (fun hp => absurd hp hc2) (fun _ => ?_)
      refine xs_aload_n d53_21 rfl ?_
      refine xe_getc (j := i0) d53_22 ky53 fl84 fk6_5 (by omega) ?_
      refine xs_iload_n d53_25 rfl ?_
      obtain ⟨hin4, hf⟩ := lk_g hf
      refine xe_iald d53_26 (by decide) ak30 hin4 ?_
      refine xs_iload_n d53_27 rfl ?_
      refine xs_ishr d53_28 ?_
      refine xs_iconst (v := 1) d53_29 (by decide) ?_
      refine xs_iand d53_30 ?_
      rcases lk_if hf with ⟨hc5, hf⟩ | ⟨hc5, hf⟩
      · refine xs_if_eq (tgt := 37) d53_31 (by decide) (fun _ => ?_) (fun hn => absurd hc5 hn)
        exact f_State_overOf_b37_ok hD hf K1 K0
      · refine xs_if_eq (tgt := 37) d53_31 (by decide) (fun hp => absurd hp hc5) (fun _ => ?_)
        obtain ⟨v2_6, ev2_6, hf⟩ := lk_let hf
        refine xe_iinc (v := v2_6) (b := 1) (ls2 := [(0, xr 6 (some i0)), (1, xi v1), (2, xi v2_6), (3, xi v3)]) d53_34 mx53 (by decide) rfl (by decide) ev2_6 rfl ?_
        exact f_State_overOf_b37_ok hD hf K1 K0
noncomputable def f_State_overOf_l4 (i0 : Nat) (v1 : Int32) (v2 : Int32) (v3 : Int32) (h : xH) : Option Int32 :=
  whl (fun s => f_State_overOf_s4 i0 v1 s.1 s.2 h) (v2, v3)
theorem f_State_overOf_l4_ok {g : xG} {l : Launch} {d : Nat} {i0 : Nat} {v1 : Int32} {v2 : Int32} {v3 : Int32} {h : xH} {o : Int32} {R : Option xV} (hD : 0 ≤ d) (hf : f_State_overOf_l4 i0 v1 v2 v3 h = some o) (K0 : ∀ (a : Int32), o = a → R = some (xi a)) : xEv g l d 53 4 [(0, xr 6 (some i0)), (1, xi v1), (2, xi v2), (3, xi v3)] [] h R h := by
  obtain ⟨n, hn⟩ := whl_iff.mp hf
  clear hf
  induction n generalizing v2 v3 with
  | zero => cases hn
  | succ n ih =>
    obtain ⟨o2, hs, hn⟩ := lk_b (show (f_State_overOf_s4 i0 v1 v2 v3 h).bind (fun o => Sum.elim (itn _ n) some o) = some o from hn)
    exact f_State_overOf_s4_ok hD hs (fun u0 u1 e => ih (by rw [e] at hn; exact hn)) (fun u0 e => K0 u0 (by rw [e] at hn; exact (Option.some.inj hn).symm))
noncomputable def f_State_overOf_e (i0 : Nat) (v1 : Int32) (h : xH) : Option Int32 :=
  f_State_overOf_l4 i0 v1 (0 : Int32) (0 : Int32) h
set_option maxHeartbeats 4000000 in
set_option maxRecDepth 100000 in
theorem f_State_overOf_e_ok {g : xG} {l : Launch} {d : Nat} {i0 : Nat} {v1 : Int32} {h : xH} {o : Int32} {R : Option xV} (hD : 0 ≤ d) (hf : f_State_overOf_e i0 v1 h = some o) (K0 : ∀ (a : Int32), o = a → R = some (xi a)) : xEv g l d 53 0 [(0, xr 6 (some i0)), (1, xi v1)] [] h R h := by
  unfold f_State_overOf_e at hf
  refine xs_iconst (v := 0) d53_0 (by decide) ?_
  refine xe_istore_n (v := (0 : Int32)) (ls2 := [(0, xr 6 (some i0)), (1, xi v1), (2, xi (0 : Int32))]) d53_1 mx53 (by decide) rfl rfl ?_
  refine xs_iconst (v := 0) d53_2 (by decide) ?_
  refine xe_istore_n (v := (0 : Int32)) (ls2 := [(0, xr 6 (some i0)), (1, xi v1), (2, xi (0 : Int32)), (3, xi (0 : Int32))]) d53_3 mx53 (by decide) rfl rfl ?_
  exact f_State_overOf_l4_ok hD hf K0
noncomputable def f_State_overOf (i0 : Nat) (v1 : Int32) (h : xH) : Option Int32 := f_State_overOf_e i0 v1 h
theorem f_State_overOf_ok {g : xG} {l : Launch} {d : Nat} {i0 : Nat} {v1 : Int32} {h : xH} {r : Int32} (hD : 0 ≤ d) (hf : f_State_overOf i0 v1 h = some r) : xC g l d 53 [xr 6 (some i0), xi v1] h (some (xi r)) h :=
  xC_of2 (by decide) mx53 (Nat.le_of_ble_eq_true rfl) (f_State_overOf_e_ok hD hf (fun _ e => by rw [e]))
theorem d54_0 : decode (xcode 54) 0 = .ok (.aload_n 0, 1) := by decide +kernel
theorem d54_1 : decode (xcode 54) 1 = .ok (.sipush 9999, 3) := by decide +kernel
theorem d54_4 : decode (xcode 54) 4 = .ok (.aload_n 0, 1) := by decide +kernel
theorem d54_5 : decode (xcode 54) 5 = .ok (.getfield 24, 3) := by decide +kernel
theorem d54_8 : decode (xcode 54) 8 = .ok (.iload_n 1, 1) := by decide +kernel
theorem d54_9 : decode (xcode 54) 9 = .ok (.iadd, 1) := by decide +kernel
theorem d54_10 : decode (xcode 54) 10 = .ok (.invokestatic 61, 3) := by decide +kernel
theorem d54_13 : decode (xcode 54) 13 = .ok (.putfield 24, 3) := by decide +kernel
theorem d54_16 : decode (xcode 54) 16 = .ok (.return_, 1) := by decide +kernel
noncomputable def f_State_pass_e (i0 : Nat) (v1 : Int32) (h : xH) : Option xH :=
  (f_Math_min (9999 : Int32) ((h.1 6 0 i0) + v1) h).bind fun r1 =>
  xlet (xsI h 6 0 i0 r1) fun h3 =>
  some (h3)
set_option maxHeartbeats 4000000 in
set_option maxRecDepth 100000 in
theorem f_State_pass_e_ok {g : xG} {l : Launch} {d : Nat} {i0 : Nat} {v1 : Int32} {h : xH} {o : xH} {R : Option xV} {H' : xH} (hD : 1 ≤ d) (hf : f_State_pass_e i0 v1 h = some o) (K0 : ∀ (h1 : xH), o = h1 → R = none ∧ H' = h1) : xEv g l d 54 0 [(0, xr 6 (some i0)), (1, xi v1)] [] h R H' := by
  unfold f_State_pass_e at hf
  refine xs_aload_n d54_0 rfl ?_
  refine xs_sipush (v := 9999) d54_1 (by decide) ?_
  refine xs_aload_n d54_4 rfl ?_
  refine xe_geti d54_5 ky54 fl67 fk6_0 ?_
  refine xs_iload_n d54_8 rfl ?_
  refine xs_iadd d54_9 ?_
  obtain ⟨r1, hc2, hf⟩ := lk_b hf
  refine xe_calls1 (as := [xi (9999 : Int32), xi ((h.1 6 0 i0) + v1)]) (st := [xr 6 (some i0)]) (h2 := h) (d2 := d - 1) d54_10 ky54 ml88 st257 rfl na257 (Nat.le_of_ble_eq_true rfl) (by omega) (f_Math_min_ok (by omega) hc2) ?_
  obtain ⟨h3, eh3, hf⟩ := lk_let hf
  refine xe_puti d54_13 ky54 fl67 fk6_0 ft6_0 eh3 ?_
  obtain ⟨eR, eH⟩ := K0 _ (Option.some.inj hf).symm
  subst eR; subst eH
  exact xs_vret d54_16 rt54
noncomputable def f_State_pass (i0 : Nat) (v1 : Int32) (h : xH) : Option xH := f_State_pass_e i0 v1 h
theorem f_State_pass_ok {g : xG} {l : Launch} {d : Nat} {i0 : Nat} {v1 : Int32} {h : xH} {h1 : xH} (hD : 1 ≤ d) (hf : f_State_pass i0 v1 h = some h1) : xC g l d 54 [xr 6 (some i0), xi v1] h none h1 :=
  xC_of2 (by decide) mx54 (Nat.le_of_ble_eq_true rfl) (f_State_pass_e_ok hD hf (fun _ e => ⟨rfl, e⟩))
theorem d55_0 : decode (xcode 55) 0 = .ok (.aload_n 0, 1) := by decide +kernel
theorem d55_1 : decode (xcode 55) 1 = .ok (.iload_n 1, 1) := by decide +kernel
theorem d55_2 : decode (xcode 55) 2 = .ok (.invokevirtual 51, 3) := by decide +kernel
theorem d55_5 : decode (xcode 55) 5 = .ok (.ifCond .ne 4, 3) := by decide +kernel
theorem d55_8 : decode (xcode 55) 8 = .ok (.return_, 1) := by decide +kernel
theorem d55_9 : decode (xcode 55) 9 = .ok (.aload_n 0, 1) := by decide +kernel
theorem d55_10 : decode (xcode 55) 10 = .ok (.aload_n 0, 1) := by decide +kernel
theorem d55_11 : decode (xcode 55) 11 = .ok (.getfield 21, 3) := by decide +kernel
theorem d55_14 : decode (xcode 55) 14 = .ok (.iload_n 1, 1) := by decide +kernel
theorem d55_15 : decode (xcode 55) 15 = .ok (.iaload, 1) := by decide +kernel
theorem d55_16 : decode (xcode 55) 16 = .ok (.invokevirtual 67, 3) := by decide +kernel
theorem d55_19 : decode (xcode 55) 19 = .ok (.aload_n 0, 1) := by decide +kernel
theorem d55_20 : decode (xcode 55) 20 = .ok (.dup, 1) := by decide +kernel
theorem d55_21 : decode (xcode 55) 21 = .ok (.getfield 36, 3) := by decide +kernel
theorem d55_24 : decode (xcode 55) 24 = .ok (.iconst 1, 1) := by decide +kernel
theorem d55_25 : decode (xcode 55) 25 = .ok (.iload_n 1, 1) := by decide +kernel
theorem d55_26 : decode (xcode 55) 26 = .ok (.ishl, 1) := by decide +kernel
theorem d55_27 : decode (xcode 55) 27 = .ok (.iconst (-1), 1) := by decide +kernel
theorem d55_28 : decode (xcode 55) 28 = .ok (.ixor, 1) := by decide +kernel
theorem d55_29 : decode (xcode 55) 29 = .ok (.iand, 1) := by decide +kernel
theorem d55_30 : decode (xcode 55) 30 = .ok (.putfield 36, 3) := by decide +kernel
theorem d55_33 : decode (xcode 55) 33 = .ok (.aload_n 0, 1) := by decide +kernel
theorem d55_34 : decode (xcode 55) 34 = .ok (.getfield 24, 3) := by decide +kernel
theorem d55_37 : decode (xcode 55) 37 = .ok (.iload_n 2, 1) := by decide +kernel
theorem d55_38 : decode (xcode 55) 38 = .ok (.if_icmp .gt 15, 3) := by decide +kernel
theorem d55_41 : decode (xcode 55) 41 = .ok (.aload_n 0, 1) := by decide +kernel
theorem d55_42 : decode (xcode 55) 42 = .ok (.dup, 1) := by decide +kernel
theorem d55_43 : decode (xcode 55) 43 = .ok (.getfield 39, 3) := by decide +kernel
theorem d55_46 : decode (xcode 55) 46 = .ok (.iconst 1, 1) := by decide +kernel
theorem d55_47 : decode (xcode 55) 47 = .ok (.iload_n 1, 1) := by decide +kernel
theorem d55_48 : decode (xcode 55) 48 = .ok (.ishl, 1) := by decide +kernel
theorem d55_49 : decode (xcode 55) 49 = .ok (.ior, 1) := by decide +kernel
theorem d55_50 : decode (xcode 55) 50 = .ok (.putfield 39, 3) := by decide +kernel
theorem d55_53 : decode (xcode 55) 53 = .ok (.aload_n 0, 1) := by decide +kernel
theorem d55_54 : decode (xcode 55) 54 = .ok (.getfield 9, 3) := by decide +kernel
theorem d55_57 : decode (xcode 55) 57 = .ok (.iload_n 1, 1) := by decide +kernel
theorem d55_58 : decode (xcode 55) 58 = .ok (.aload_n 0, 1) := by decide +kernel
theorem d55_59 : decode (xcode 55) 59 = .ok (.getfield 24, 3) := by decide +kernel
theorem d55_62 : decode (xcode 55) 62 = .ok (.iastore, 1) := by decide +kernel
theorem d55_63 : decode (xcode 55) 63 = .ok (.return_, 1) := by decide +kernel
noncomputable def f_State_lift_b53 (i0 : Nat) (v1 : Int32) (h : xH) : Option xH :=
  if xib v1 8 then (
  xlet (xsA h 29 i0 (upd (h.2.2.2.1 29 i0) (v1).toNatClampNeg (h.1 6 0 i0))) fun h11 =>
  some (h11)) else none
set_option maxHeartbeats 4000000 in
set_option maxRecDepth 100000 in
theorem f_State_lift_b53_ok {g : xG} {l : Launch} {d : Nat} {i0 : Nat} {v1 : Int32} {h : xH} {o : xH} {R : Option xV} {H' : xH} (hD : 2 ≤ d) (hf : f_State_lift_b53 i0 v1 h = some o) (K0 : ∀ (h1 : xH), o = h1 → R = none ∧ H' = h1) : xEv g l d 55 53 [(0, xr 6 (some i0)), (1, xi v1)] [] h R H' := by
  unfold f_State_lift_b53 at hf
  refine xs_aload_n d55_53 rfl ?_
  refine xe_getc (j := i0) d55_54 ky55 fl82 fk6_4 (by omega) ?_
  refine xs_iload_n d55_57 rfl ?_
  refine xs_aload_n d55_58 rfl ?_
  refine xe_geti d55_59 ky55 fl67 fk6_0 ?_
  obtain ⟨hin10, hf⟩ := lk_g hf
  obtain ⟨h11, eh11, hf⟩ := lk_let hf
  refine xe_iast d55_62 (by decide) ak29 hin10  eh11 ?_
  obtain ⟨eR, eH⟩ := K0 _ (Option.some.inj hf).symm
  subst eR; subst eH
  exact xs_vret d55_63 rt55
noncomputable def f_State_lift_e (i0 : Nat) (v1 : Int32) (v2 : Int32) (h : xH) : Option xH :=
  (f_State_isIn i0 v1 h).bind fun r1 =>
  if r1 = (0 : Int32) then (
  some (h)) else (
  if xib v1 8 then (
  (f_State_pass i0 (h.2.2.2.1 32 i0 (v1).toNatClampNeg) h).bind fun h7 =>
  xlet (xsI h7 6 2 i0 ((h7.1 6 2 i0) &&& (((1 : Int32) <<< (v1 &&& 31)) ^^^ (-1 : Int32)))) fun h8 =>
  if v2 < (h8.1 6 0 i0) then (
  f_State_lift_b53 i0 v1 h8) else (
  xlet (xsI h8 6 3 i0 ((h8.1 6 3 i0) ||| ((1 : Int32) <<< (v1 &&& 31)))) fun h12 =>
  f_State_lift_b53 i0 v1 h12)) else none)
set_option maxHeartbeats 4000000 in
set_option maxRecDepth 100000 in
theorem f_State_lift_e_ok {g : xG} {l : Launch} {d : Nat} {i0 : Nat} {v1 : Int32} {v2 : Int32} {h : xH} {o : xH} {R : Option xV} {H' : xH} (hD : 2 ≤ d) (hf : f_State_lift_e i0 v1 v2 h = some o) (K0 : ∀ (h1 : xH), o = h1 → R = none ∧ H' = h1) : xEv g l d 55 0 [(0, xr 6 (some i0)), (1, xi v1), (2, xi v2)] [] h R H' := by
  unfold f_State_lift_e at hf
  refine xs_aload_n d55_0 rfl ?_
  refine xs_iload_n d55_1 rfl ?_
  obtain ⟨r1, hc2, hf⟩ := lk_b hf
  refine xe_callv1 (as := [xi v1]) (st := []) (h2 := h) (d2 := d - 1) d55_2 ky55 ml60 st47 (by decide) cn47 rfl na47 (Nat.le_of_ble_eq_true rfl) (by omega) (f_State_isIn_ok (by omega) hc2) ?_
  rcases lk_if hf with ⟨hc3, hf⟩ | ⟨hc3, hf⟩
  · refine xs_if_ne (tgt := 9) d55_5 (by decide) (fun _ => ?_) (fun hn => absurd hc3 hn)
    obtain ⟨eR, eH⟩ := K0 _ (Option.some.inj hf).symm
    subst eR; subst eH
    exact xs_vret d55_8 rt55
  · refine xs_if_ne (tgt := 9) d55_5 (by decide) (fun hp => absurd hp hc3) (fun _ => ?_)
    refine xs_aload_n d55_9 rfl ?_
    refine xs_aload_n d55_10 rfl ?_
    refine xe_getc (j := i0) d55_11 ky55 fl91 fk6_7 (by omega) ?_
    refine xs_iload_n d55_14 rfl ?_
    obtain ⟨hin4, hf⟩ := lk_g hf
    refine xe_iald d55_15 (by decide) ak32 hin4 ?_
    obtain ⟨h7, hc6, hf⟩ := lk_b hf
    refine xe_callv0 (as := [xi (h.2.2.2.1 32 i0 (v1).toNatClampNeg)]) (st := []) (h2 := h7) (d2 := d - 1) d55_16 ky55 ml90 st54 (by decide) cn54 rfl na54 (Nat.le_of_ble_eq_true rfl) (by omega) (f_State_pass_ok (by omega) hc6) ?_
    refine xs_aload_n d55_19 rfl ?_
    refine xs_dup d55_20 rfl ?_
    refine xe_geti d55_21 ky55 fl74 fk6_2 ?_
    refine xs_iconst (v := 1) d55_24 (by decide) ?_
    refine xs_iload_n d55_25 rfl ?_
    refine xs_ishl d55_26 ?_
    refine xs_iconst (v := -1) d55_27 (by decide) ?_
    refine xs_ixor d55_28 ?_
    refine xs_iand d55_29 ?_
    obtain ⟨h8, eh8, hf⟩ := lk_let hf
    refine xe_puti d55_30 ky55 fl74 fk6_2 ft6_2 eh8 ?_
    refine xs_aload_n d55_33 rfl ?_
    refine xe_geti d55_34 ky55 fl67 fk6_0 ?_
    refine xs_iload_n d55_37 rfl ?_
    rcases lk_if hf with ⟨hc9, hf⟩ | ⟨hc9, hf⟩
    · refine xs_icmp_gt (tgt := 53) d55_38 (by decide) (fun _ => ?_) (fun hn => absurd hc9 hn)
      refine xs_pick [0, 1] rfl ?_
      exact f_State_lift_b53_ok hD hf K0
    · refine xs_icmp_gt (tgt := 53) d55_38 (by decide) (fun hp => absurd hp hc9) (fun _ => ?_)
      refine xs_aload_n d55_41 rfl ?_
      refine xs_dup d55_42 rfl ?_
      refine xe_geti d55_43 ky55 fl79 fk6_3 ?_
      refine xs_iconst (v := 1) d55_46 (by decide) ?_
      refine xs_iload_n d55_47 rfl ?_
      refine xs_ishl d55_48 ?_
      refine xs_ior d55_49 ?_
      obtain ⟨h12, eh12, hf⟩ := lk_let hf
      refine xe_puti d55_50 ky55 fl79 fk6_3 ft6_3 eh12 ?_
      refine xs_pick [0, 1] rfl ?_
      exact f_State_lift_b53_ok hD hf K0
noncomputable def f_State_lift (i0 : Nat) (v1 : Int32) (v2 : Int32) (h : xH) : Option xH := f_State_lift_e i0 v1 v2 h
theorem f_State_lift_ok {g : xG} {l : Launch} {d : Nat} {i0 : Nat} {v1 : Int32} {v2 : Int32} {h : xH} {h1 : xH} (hD : 2 ≤ d) (hf : f_State_lift i0 v1 v2 h = some h1) : xC g l d 55 [xr 6 (some i0), xi v1, xi v2] h none h1 :=
  xC_of2 (by decide) mx55 (Nat.le_of_ble_eq_true rfl) (f_State_lift_e_ok hD hf (fun _ e => ⟨rfl, e⟩))
theorem d56_0 : decode (xcode 56) 0 = .ok (.aload_n 0, 1) := by decide +kernel
theorem d56_1 : decode (xcode 56) 1 = .ok (.getfield 25, 3) := by decide +kernel
theorem d56_4 : decode (xcode 56) 4 = .ok (.iload_n 1, 1) := by decide +kernel
theorem d56_5 : decode (xcode 56) 5 = .ok (.iadd, 1) := by decide +kernel
theorem d56_6 : decode (xcode 56) 6 = .ok (.sipush 400, 3) := by decide +kernel
theorem d56_9 : decode (xcode 56) 9 = .ok (.if_icmp .gt 7, 3) := by decide +kernel
theorem d56_12 : decode (xcode 56) 12 = .ok (.iconst 1, 1) := by decide +kernel
theorem d56_13 : decode (xcode 56) 13 = .ok (.goto 4, 3) := by decide +kernel
theorem d56_16 : decode (xcode 56) 16 = .ok (.iconst 0, 1) := by decide +kernel
theorem d56_17 : decode (xcode 56) 17 = .ok (.ireturn, 1) := by decide +kernel
noncomputable def f_Tape_hasRoom_e (v1 : Int32) (h : xH) : Option Int32 :=
  if (400 : Int32) < ((h.1 7 6 0) + v1) then (
  some ((0 : Int32))) else (
  some ((1 : Int32)))
set_option maxHeartbeats 4000000 in
set_option maxRecDepth 100000 in
theorem f_Tape_hasRoom_e_ok {g : xG} {l : Launch} {d : Nat} {v1 : Int32} {h : xH} {o : Int32} {R : Option xV} (hD : 0 ≤ d) (hf : f_Tape_hasRoom_e v1 h = some o) (K0 : ∀ (a : Int32), o = a → R = some (xi a)) : xEv g l d 56 0 [(0, xr 7 (some 0)), (1, xi v1)] [] h R h := by
  unfold f_Tape_hasRoom_e at hf
  refine xs_aload_n d56_0 rfl ?_
  refine xe_geti d56_1 ky56 fl6 fk7_6 ?_
  refine xs_iload_n d56_4 rfl ?_
  refine xs_iadd d56_5 ?_
  refine xs_sipush (v := 400) d56_6 (by decide) ?_
  rcases lk_if hf with ⟨hc1, hf⟩ | ⟨hc1, hf⟩
  · refine xs_icmp_gt (tgt := 16) d56_9 (by decide) (fun _ => ?_) (fun hn => absurd hc1 hn)
    refine xs_iconst (v := 0) d56_16 (by decide) ?_
    obtain eR := K0 _ (Option.some.inj hf).symm
    subst eR
    exact xe_zret d56_17 (Or.inl rfl) rt56
  · refine xs_icmp_gt (tgt := 16) d56_9 (by decide) (fun hp => absurd hp hc1) (fun _ => ?_)
    refine xs_iconst (v := 1) d56_12 (by decide) ?_
    refine xs_goto (tgt := 17) d56_13 (by decide) ?_
    obtain eR := K0 _ (Option.some.inj hf).symm
    subst eR
    exact xe_zret d56_17 (Or.inr rfl) rt56
noncomputable def f_Tape_hasRoom (v1 : Int32) (h : xH) : Option Int32 := f_Tape_hasRoom_e v1 h
theorem f_Tape_hasRoom_ok {g : xG} {l : Launch} {d : Nat} {v1 : Int32} {h : xH} {r : Int32} (hD : 0 ≤ d) (hf : f_Tape_hasRoom v1 h = some r) : xC g l d 56 [xr 7 (some 0), xi v1] h (some (xi r)) h :=
  xC_of2 (by decide) mx56 (Nat.le_of_ble_eq_true rfl) (f_Tape_hasRoom_e_ok hD hf (fun _ e => by rw [e]))
theorem d57_0 : decode (xcode 57) 0 = .ok (.bipush 24, 2) := by decide +kernel
theorem d57_2 : decode (xcode 57) 2 = .ok (.istore_n 2, 1) := by decide +kernel
theorem d57_3 : decode (xcode 57) 3 = .ok (.iload_n 2, 1) := by decide +kernel
theorem d57_4 : decode (xcode 57) 4 = .ok (.ifCond .lt 49, 3) := by decide +kernel
theorem d57_7 : decode (xcode 57) 7 = .ok (.aload_n 0, 1) := by decide +kernel
theorem d57_8 : decode (xcode 57) 8 = .ok (.getfield 25, 3) := by decide +kernel
theorem d57_11 : decode (xcode 57) 11 = .ok (.ifCond .lt 36, 3) := by decide +kernel
theorem d57_14 : decode (xcode 57) 14 = .ok (.aload_n 0, 1) := by decide +kernel
theorem d57_15 : decode (xcode 57) 15 = .ok (.getfield 25, 3) := by decide +kernel
theorem d57_18 : decode (xcode 57) 18 = .ok (.sipush 400, 3) := by decide +kernel
theorem d57_21 : decode (xcode 57) 21 = .ok (.if_icmp .ge 26, 3) := by decide +kernel
theorem d57_24 : decode (xcode 57) 24 = .ok (.aload_n 0, 1) := by decide +kernel
theorem d57_25 : decode (xcode 57) 25 = .ok (.getfield 11, 3) := by decide +kernel
theorem d57_28 : decode (xcode 57) 28 = .ok (.aload_n 0, 1) := by decide +kernel
theorem d57_29 : decode (xcode 57) 29 = .ok (.getfield 25, 3) := by decide +kernel
theorem d57_32 : decode (xcode 57) 32 = .ok (.iload_n 1, 1) := by decide +kernel
theorem d57_33 : decode (xcode 57) 33 = .ok (.iload_n 2, 1) := by decide +kernel
theorem d57_34 : decode (xcode 57) 34 = .ok (.ishr, 1) := by decide +kernel
theorem d57_35 : decode (xcode 57) 35 = .ok (.i2b, 1) := by decide +kernel
theorem d57_36 : decode (xcode 57) 36 = .ok (.bastore, 1) := by decide +kernel
theorem d57_37 : decode (xcode 57) 37 = .ok (.aload_n 0, 1) := by decide +kernel
theorem d57_38 : decode (xcode 57) 38 = .ok (.dup, 1) := by decide +kernel
theorem d57_39 : decode (xcode 57) 39 = .ok (.getfield 25, 3) := by decide +kernel
theorem d57_42 : decode (xcode 57) 42 = .ok (.iconst 1, 1) := by decide +kernel
theorem d57_43 : decode (xcode 57) 43 = .ok (.iadd, 1) := by decide +kernel
theorem d57_44 : decode (xcode 57) 44 = .ok (.putfield 25, 3) := by decide +kernel
theorem d57_47 : decode (xcode 57) 47 = .ok (.iinc 2 (-8), 3) := by decide +kernel
theorem d57_50 : decode (xcode 57) 50 = .ok (.goto (-47), 3) := by decide +kernel
theorem d57_53 : decode (xcode 57) 53 = .ok (.return_, 1) := by decide +kernel
noncomputable def f_Tape_put_b47 (v1 : Int32) (v2 : Int32) (h : xH) : Option ((Int32 × xH) ⊕ xH) :=
  xlet (v2 + (-8 : Int32)) fun v2_3 =>
  some (Sum.inl (v2_3, h))
set_option maxHeartbeats 4000000 in
set_option maxRecDepth 100000 in
theorem f_Tape_put_b47_ok {g : xG} {l : Launch} {d : Nat} {v1 : Int32} {v2 : Int32} {h : xH} {o : ((Int32 × xH) ⊕ xH)} {R : Option xV} {H' : xH} (hD : 0 ≤ d) (hf : f_Tape_put_b47 v1 v2 h = some o) (K1 : ∀ (w2 : Int32) (h1 : xH), o = Sum.inl (w2, h1) → xEv g l d 57 3 [(0, xr 7 (some 0)), (1, xi v1), (2, xi w2)] [] h1 R H') (K0 : ∀ (h1 : xH), o = Sum.inr (h1) → R = none ∧ H' = h1) : xEv g l d 57 47 [(0, xr 7 (some 0)), (1, xi v1), (2, xi v2)] [] h R H' := by
  unfold f_Tape_put_b47 at hf
  obtain ⟨v2_3, ev2_3, hf⟩ := lk_let hf
  refine xe_iinc (v := v2_3) (b := -8) (ls2 := [(0, xr 7 (some 0)), (1, xi v1), (2, xi v2_3)]) d57_47 mx57 (by decide) rfl (by decide) ev2_3 rfl ?_
  refine xs_goto (tgt := 3) d57_50 (by decide) ?_
  exact K1 _ _ (Option.some.inj hf).symm
noncomputable def f_Tape_put_s3 (v1 : Int32) (v2 : Int32) (h : xH) : Option ((Int32 × xH) ⊕ xH) :=
  if v2 < (0 : Int32) then (
  some (Sum.inr (h))) else (
  if (h.1 7 6 0) < (0 : Int32) then (
  f_Tape_put_b47 v1 v2 h) else (
  if (400 : Int32) ≤ (h.1 7 6 0) then (
  f_Tape_put_b47 v1 v2 h) else (
  if xib (h.1 7 6 0) 400 then (
  xlet (xsA h 33 0 (upd (h.2.2.2.1 33 0) (h.1 7 6 0).toNatClampNeg ((v1 >>> (v2 &&& 31)).toInt8.toInt32).toInt8.toInt32)) fun h6 =>
  xlet (xsI h6 7 6 0 ((h6.1 7 6 0) + (1 : Int32))) fun h7 =>
  f_Tape_put_b47 v1 v2 h7) else none)))
set_option maxHeartbeats 4000000 in
set_option maxRecDepth 100000 in
theorem f_Tape_put_s3_ok {g : xG} {l : Launch} {d : Nat} {v1 : Int32} {v2 : Int32} {h : xH} {o : ((Int32 × xH) ⊕ xH)} {R : Option xV} {H' : xH} (hD : 0 ≤ d) (hf : f_Tape_put_s3 v1 v2 h = some o) (K1 : ∀ (w2 : Int32) (h1 : xH), o = Sum.inl (w2, h1) → xEv g l d 57 3 [(0, xr 7 (some 0)), (1, xi v1), (2, xi w2)] [] h1 R H') (K0 : ∀ (h1 : xH), o = Sum.inr (h1) → R = none ∧ H' = h1) : xEv g l d 57 3 [(0, xr 7 (some 0)), (1, xi v1), (2, xi v2)] [] h R H' := by
  unfold f_Tape_put_s3 at hf
  refine xs_iload_n d57_3 rfl ?_
  rcases lk_if hf with ⟨hc1, hf⟩ | ⟨hc1, hf⟩
  · refine xs_if_lt (tgt := 53) d57_4 (by decide) (fun _ => ?_) (fun hn => absurd hc1 hn)
    obtain ⟨eR, eH⟩ := K0 _ (Option.some.inj hf).symm
    subst eR; subst eH
    exact xs_vret d57_53 rt57
  · refine xs_if_lt (tgt := 53) d57_4 (by decide) (fun hp => absurd hp hc1) (fun _ => ?_)
    refine xs_aload_n d57_7 rfl ?_
    refine xe_geti d57_8 ky57 fl6 fk7_6 ?_
    rcases lk_if hf with ⟨hc2, hf⟩ | ⟨hc2, hf⟩
    · refine xs_if_lt (tgt := 47) d57_11 (by decide) (fun _ => ?_) (fun hn => absurd hc2 hn)
      exact f_Tape_put_b47_ok hD hf K1 K0
    · refine xs_if_lt (tgt := 47) d57_11 (by decide) (fun hp => absurd hp hc2) (fun _ => ?_)
      refine xs_aload_n d57_14 rfl ?_
      refine xe_geti d57_15 ky57 fl6 fk7_6 ?_
      refine xs_sipush (v := 400) d57_18 (by decide) ?_
      rcases lk_if hf with ⟨hc4, hf⟩ | ⟨hc4, hf⟩
      · refine xs_icmp_ge (tgt := 47) d57_21 (by decide) (fun _ => ?_) (fun hn => absurd hc4 hn)
        exact f_Tape_put_b47_ok hD hf K1 K0
      · refine xs_icmp_ge (tgt := 47) d57_21 (by decide) (fun hp => absurd hp hc4) (fun _ => ?_)
        refine xs_aload_n d57_24 rfl ?_
        refine xe_getc (j := 0) d57_25 ky57 fl0 fk7_0 rfl ?_
        refine xs_aload_n d57_28 rfl ?_
        refine xe_geti d57_29 ky57 fl6 fk7_6 ?_
        refine xs_iload_n d57_32 rfl ?_
        refine xs_iload_n d57_33 rfl ?_
        refine xs_ishr d57_34 ?_
        refine xs_i2b d57_35 ?_
        obtain ⟨hin5, hf⟩ := lk_g hf
        obtain ⟨h6, eh6, hf⟩ := lk_let hf
        refine xe_bast d57_36 (by decide) ak33 hin5  eh6 ?_
        refine xs_aload_n d57_37 rfl ?_
        refine xs_dup d57_38 rfl ?_
        refine xe_geti d57_39 ky57 fl6 fk7_6 ?_
        refine xs_iconst (v := 1) d57_42 (by decide) ?_
        refine xs_iadd d57_43 ?_
        obtain ⟨h7, eh7, hf⟩ := lk_let hf
        refine xe_puti d57_44 ky57 fl6 fk7_6 ft7_6 eh7 ?_
        exact f_Tape_put_b47_ok hD hf K1 K0
noncomputable def f_Tape_put_l3 (v1 : Int32) (v2 : Int32) (h : xH) : Option xH :=
  whl (fun s => f_Tape_put_s3 v1 s.1 s.2) (v2, h)
theorem f_Tape_put_l3_ok {g : xG} {l : Launch} {d : Nat} {v1 : Int32} {v2 : Int32} {h : xH} {o : xH} {R : Option xV} {H' : xH} (hD : 0 ≤ d) (hf : f_Tape_put_l3 v1 v2 h = some o) (K0 : ∀ (h1 : xH), o = h1 → R = none ∧ H' = h1) : xEv g l d 57 3 [(0, xr 7 (some 0)), (1, xi v1), (2, xi v2)] [] h R H' := by
  obtain ⟨n, hn⟩ := whl_iff.mp hf
  clear hf
  induction n generalizing v2 h with
  | zero => cases hn
  | succ n ih =>
    obtain ⟨o2, hs, hn⟩ := lk_b (show (f_Tape_put_s3 v1 v2 h).bind (fun o => Sum.elim (itn _ n) some o) = some o from hn)
    exact f_Tape_put_s3_ok hD hs (fun u0 u1 e => ih (by rw [e] at hn; exact hn)) (fun u0 e => K0 u0 (by rw [e] at hn; exact (Option.some.inj hn).symm))
noncomputable def f_Tape_put_e (v1 : Int32) (h : xH) : Option xH :=
  f_Tape_put_l3 v1 (24 : Int32) h
set_option maxHeartbeats 4000000 in
set_option maxRecDepth 100000 in
theorem f_Tape_put_e_ok {g : xG} {l : Launch} {d : Nat} {v1 : Int32} {h : xH} {o : xH} {R : Option xV} {H' : xH} (hD : 0 ≤ d) (hf : f_Tape_put_e v1 h = some o) (K0 : ∀ (h1 : xH), o = h1 → R = none ∧ H' = h1) : xEv g l d 57 0 [(0, xr 7 (some 0)), (1, xi v1)] [] h R H' := by
  unfold f_Tape_put_e at hf
  refine xs_bipush (v := 24) d57_0 (by decide) ?_
  refine xe_istore_n (v := (24 : Int32)) (ls2 := [(0, xr 7 (some 0)), (1, xi v1), (2, xi (24 : Int32))]) d57_2 mx57 (by decide) rfl rfl ?_
  exact f_Tape_put_l3_ok hD hf K0
noncomputable def f_Tape_put (v1 : Int32) (h : xH) : Option xH := f_Tape_put_e v1 h
theorem f_Tape_put_ok {g : xG} {l : Launch} {d : Nat} {v1 : Int32} {h : xH} {h1 : xH} (hD : 0 ≤ d) (hf : f_Tape_put v1 h = some h1) : xC g l d 57 [xr 7 (some 0), xi v1] h none h1 :=
  xC_of2 (by decide) mx57 (Nat.le_of_ble_eq_true rfl) (f_Tape_put_e_ok hD hf (fun _ e => ⟨rfl, e⟩))
