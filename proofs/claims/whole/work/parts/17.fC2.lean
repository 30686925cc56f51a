theorem d62_0 : decode (xcode 62) 0 = .ok (.iload_n 1, 1) := by decide +kernel
theorem d62_1 : decode (xcode 62) 1 = .ok (.istore_n 2, 1) := by decide +kernel
theorem d62_2 : decode (xcode 62) 2 = .ok (.iload_n 2, 1) := by decide +kernel
theorem d62_3 : decode (xcode 62) 3 = .ok (.sipush 400, 3) := by decide +kernel
theorem d62_6 : decode (xcode 62) 6 = .ok (.if_icmp .ge 19, 3) := by decide +kernel
theorem d62_9 : decode (xcode 62) 9 = .ok (.aload_n 0, 1) := by decide +kernel
theorem d62_10 : decode (xcode 62) 10 = .ok (.iload_n 2, 1) := by decide +kernel
theorem d62_11 : decode (xcode 62) 11 = .ok (.invokevirtual 29, 3) := by decide +kernel
theorem d62_14 : decode (xcode 62) 14 = .ok (.bipush 32, 2) := by decide +kernel
theorem d62_16 : decode (xcode 62) 16 = .ok (.if_icmp .ne 9, 3) := by decide +kernel
theorem d62_19 : decode (xcode 62) 19 = .ok (.iinc 2 1, 3) := by decide +kernel
theorem d62_22 : decode (xcode 62) 22 = .ok (.goto (-20), 3) := by decide +kernel
theorem d62_25 : decode (xcode 62) 25 = .ok (.iload_n 2, 1) := by decide +kernel
theorem d62_26 : decode (xcode 62) 26 = .ok (.iconst 1, 1) := by decide +kernel
theorem d62_27 : decode (xcode 62) 27 = .ok (.iadd, 1) := by decide +kernel
theorem d62_28 : decode (xcode 62) 28 = .ok (.istore_n 3, 1) := by decide +kernel
theorem d62_29 : decode (xcode 62) 29 = .ok (.aload_n 0, 1) := by decide +kernel
theorem d62_30 : decode (xcode 62) 30 = .ok (.iload_n 2, 1) := by decide +kernel
theorem d62_31 : decode (xcode 62) 31 = .ok (.invokevirtual 29, 3) := by decide +kernel
theorem d62_34 : decode (xcode 62) 34 = .ok (.iconst (-1), 1) := by decide +kernel
theorem d62_35 : decode (xcode 62) 35 = .ok (.if_icmp .ne 13, 3) := by decide +kernel
theorem d62_38 : decode (xcode 62) 38 = .ok (.aload_n 0, 1) := by decide +kernel
theorem d62_39 : decode (xcode 62) 39 = .ok (.iconst 0, 1) := by decide +kernel
theorem d62_40 : decode (xcode 62) 40 = .ok (.iload_n 2, 1) := by decide +kernel
theorem d62_41 : decode (xcode 62) 41 = .ok (.iconst 0, 1) := by decide +kernel
theorem d62_42 : decode (xcode 62) 42 = .ok (.invokevirtual 48, 3) := by decide +kernel
theorem d62_45 : decode (xcode 62) 45 = .ok (.goto 128, 3) := by decide +kernel
theorem d62_48 : decode (xcode 62) 48 = .ok (.aload_n 0, 1) := by decide +kernel
theorem d62_49 : decode (xcode 62) 49 = .ok (.iload_n 2, 1) := by decide +kernel
theorem d62_50 : decode (xcode 62) 50 = .ok (.invokevirtual 52, 3) := by decide +kernel
theorem d62_53 : decode (xcode 62) 53 = .ok (.ifCond .eq 39, 3) := by decide +kernel
theorem d62_56 : decode (xcode 62) 56 = .ok (.iload_n 3, 1) := by decide +kernel
theorem d62_57 : decode (xcode 62) 57 = .ok (.sipush 400, 3) := by decide +kernel
theorem d62_60 : decode (xcode 62) 60 = .ok (.if_icmp .ge 17, 3) := by decide +kernel
theorem d62_63 : decode (xcode 62) 63 = .ok (.aload_n 0, 1) := by decide +kernel
theorem d62_64 : decode (xcode 62) 64 = .ok (.iload_n 3, 1) := by decide +kernel
theorem d62_65 : decode (xcode 62) 65 = .ok (.invokevirtual 52, 3) := by decide +kernel
theorem d62_68 : decode (xcode 62) 68 = .ok (.ifCond .eq 9, 3) := by decide +kernel
theorem d62_71 : decode (xcode 62) 71 = .ok (.iinc 3 1, 3) := by decide +kernel
theorem d62_74 : decode (xcode 62) 74 = .ok (.goto (-18), 3) := by decide +kernel
theorem d62_77 : decode (xcode 62) 77 = .ok (.aload_n 0, 1) := by decide +kernel
theorem d62_78 : decode (xcode 62) 78 = .ok (.iconst 1, 1) := by decide +kernel
theorem d62_79 : decode (xcode 62) 79 = .ok (.iload_n 2, 1) := by decide +kernel
theorem d62_80 : decode (xcode 62) 80 = .ok (.aload_n 0, 1) := by decide +kernel
theorem d62_81 : decode (xcode 62) 81 = .ok (.iload_n 2, 1) := by decide +kernel
theorem d62_82 : decode (xcode 62) 82 = .ok (.iload_n 3, 1) := by decide +kernel
theorem d62_83 : decode (xcode 62) 83 = .ok (.invokevirtual 56, 3) := by decide +kernel
theorem d62_86 : decode (xcode 62) 86 = .ok (.invokevirtual 48, 3) := by decide +kernel
theorem d62_89 : decode (xcode 62) 89 = .ok (.goto 84, 3) := by decide +kernel
theorem d62_92 : decode (xcode 62) 92 = .ok (.aload_n 0, 1) := by decide +kernel
theorem d62_93 : decode (xcode 62) 93 = .ok (.iload_n 2, 1) := by decide +kernel
theorem d62_94 : decode (xcode 62) 94 = .ok (.invokevirtual 60, 3) := by decide +kernel
theorem d62_97 : decode (xcode 62) 97 = .ok (.ifCond .eq 39, 3) := by decide +kernel
theorem d62_100 : decode (xcode 62) 100 = .ok (.iload_n 3, 1) := by decide +kernel
theorem d62_101 : decode (xcode 62) 101 = .ok (.sipush 400, 3) := by decide +kernel
theorem d62_104 : decode (xcode 62) 104 = .ok (.if_icmp .ge 17, 3) := by decide +kernel
theorem d62_107 : decode (xcode 62) 107 = .ok (.aload_n 0, 1) := by decide +kernel
theorem d62_108 : decode (xcode 62) 108 = .ok (.iload_n 3, 1) := by decide +kernel
theorem d62_109 : decode (xcode 62) 109 = .ok (.invokevirtual 60, 3) := by decide +kernel
theorem d62_112 : decode (xcode 62) 112 = .ok (.ifCond .eq 9, 3) := by decide +kernel
theorem d62_115 : decode (xcode 62) 115 = .ok (.iinc 3 1, 3) := by decide +kernel
theorem d62_118 : decode (xcode 62) 118 = .ok (.goto (-18), 3) := by decide +kernel
theorem d62_121 : decode (xcode 62) 121 = .ok (.aload_n 0, 1) := by decide +kernel
theorem d62_122 : decode (xcode 62) 122 = .ok (.iconst 2, 1) := by decide +kernel
theorem d62_123 : decode (xcode 62) 123 = .ok (.iload_n 2, 1) := by decide +kernel
theorem d62_124 : decode (xcode 62) 124 = .ok (.aload_n 0, 1) := by decide +kernel
theorem d62_125 : decode (xcode 62) 125 = .ok (.iload_n 2, 1) := by decide +kernel
theorem d62_126 : decode (xcode 62) 126 = .ok (.iload_n 3, 1) := by decide +kernel
theorem d62_127 : decode (xcode 62) 127 = .ok (.invokevirtual 63, 3) := by decide +kernel
theorem d62_130 : decode (xcode 62) 130 = .ok (.invokevirtual 48, 3) := by decide +kernel
theorem d62_133 : decode (xcode 62) 133 = .ok (.goto 40, 3) := by decide +kernel
theorem d62_136 : decode (xcode 62) 136 = .ok (.iload_n 3, 1) := by decide +kernel
theorem d62_137 : decode (xcode 62) 137 = .ok (.aload_n 0, 1) := by decide +kernel
theorem d62_138 : decode (xcode 62) 138 = .ok (.iload_n 2, 1) := by decide +kernel
theorem d62_139 : decode (xcode 62) 139 = .ok (.invokevirtual 66, 3) := by decide +kernel
theorem d62_142 : decode (xcode 62) 142 = .ok (.ifCond .eq 7, 3) := by decide +kernel
theorem d62_145 : decode (xcode 62) 145 = .ok (.iconst 1, 1) := by decide +kernel
theorem d62_146 : decode (xcode 62) 146 = .ok (.goto 4, 3) := by decide +kernel
theorem d62_149 : decode (xcode 62) 149 = .ok (.iconst 0, 1) := by decide +kernel
theorem d62_150 : decode (xcode 62) 150 = .ok (.iadd, 1) := by decide +kernel
theorem d62_151 : decode (xcode 62) 151 = .ok (.istore_n 3, 1) := by decide +kernel
theorem d62_152 : decode (xcode 62) 152 = .ok (.aload_n 0, 1) := by decide +kernel
theorem d62_153 : decode (xcode 62) 153 = .ok (.iconst 3, 1) := by decide +kernel
theorem d62_154 : decode (xcode 62) 154 = .ok (.iload_n 2, 1) := by decide +kernel
theorem d62_155 : decode (xcode 62) 155 = .ok (.aload_n 0, 1) := by decide +kernel
theorem d62_156 : decode (xcode 62) 156 = .ok (.iload_n 2, 1) := by decide +kernel
theorem d62_157 : decode (xcode 62) 157 = .ok (.invokevirtual 29, 3) := by decide +kernel
theorem d62_160 : decode (xcode 62) 160 = .ok (.iload_n 3, 1) := by decide +kernel
theorem d62_161 : decode (xcode 62) 161 = .ok (.iload_n 2, 1) := by decide +kernel
theorem d62_162 : decode (xcode 62) 162 = .ok (.isub, 1) := by decide +kernel
theorem d62_163 : decode (xcode 62) 163 = .ok (.iconst 1, 1) := by decide +kernel
theorem d62_164 : decode (xcode 62) 164 = .ok (.isub, 1) := by decide +kernel
theorem d62_165 : decode (xcode 62) 165 = .ok (.sipush 400, 3) := by decide +kernel
theorem d62_168 : decode (xcode 62) 168 = .ok (.imul, 1) := by decide +kernel
theorem d62_169 : decode (xcode 62) 169 = .ok (.iadd, 1) := by decide +kernel
theorem d62_170 : decode (xcode 62) 170 = .ok (.invokevirtual 48, 3) := by decide +kernel
theorem d62_173 : decode (xcode 62) 173 = .ok (.iload_n 3, 1) := by decide +kernel
theorem d62_174 : decode (xcode 62) 174 = .ok (.ireturn, 1) := by decide +kernel
noncomputable def f_Tape_cutPiece_b150 (v2 : Int32) (t0 : Int32) (t1 : Int32) (h : xH) : Option (Int32 × xH) :=
  xlet (t1 + t0) fun v3_18 =>
  (f_Tape_byteAt v2 h).bind fun r19 =>
  (f_Tape_addPiece (3 : Int32) v2 (r19 + (((v3_18 - v2) - (1 : Int32)) * (400 : Int32))) h).bind fun h23 =>
  some ((v3_18, h23))
set_option maxHeartbeats 4000000 in
set_option maxRecDepth 100000 in
theorem f_Tape_cutPiece_b150_ok {g : xG} {l : Launch} {d : Nat} {v2 : Int32} {t0 : Int32} {t1 : Int32} {h : xH} {o : (Int32 × xH)} {R : Option xV} {H' : xH} (hD : 6 ≤ d) (hf : f_Tape_cutPiece_b150 v2 t0 t1 h = some o) (K0 : ∀ (a : Int32) (h1 : xH), o = (a, h1) → R = some (xi a) ∧ H' = h1) : xEv g l d 62 150 [(0, xr 7 (some 0)), (2, xi v2)] [xi t0, xi t1] h R H' := by
  unfold f_Tape_cutPiece_b150 at hf
  refine xs_iadd d62_150 ?_
  obtain ⟨v3_18, ev3_18, hf⟩ := lk_let hf
  refine xe_istore_n (v := v3_18) (ls2 := [(0, xr 7 (some 0)), (2, xi v2), (3, xi v3_18)]) d62_151 mx62 (by decide) ev3_18 rfl ?_
  refine xs_aload_n d62_152 rfl ?_
  refine xs_iconst (v := 3) d62_153 (by decide) ?_
  refine xs_iload_n d62_154 rfl ?_
  refine xs_aload_n d62_155 rfl ?_
  refine xs_iload_n d62_156 rfl ?_
  obtain ⟨r19, hc20, hf⟩ := lk_b hf
  refine xe_callv1 (as := [xi v2]) (st := [xi v2, xi (3 : Int32), xr 7 (some 0)]) (h2 := h) (d2 := d - 1) d62_157 ky62 ml9 st58 (by decide) cn58 rfl na58 (Nat.le_of_ble_eq_true rfl) (by omega) (f_Tape_byteAt_ok (by omega) hc20) ?_
  refine xs_iload_n d62_160 rfl ?_
  refine xs_iload_n d62_161 rfl ?_
  refine xs_isub d62_162 ?_
  refine xs_iconst (v := 1) d62_163 (by decide) ?_
  refine xs_isub d62_164 ?_
  refine xs_sipush (v := 400) d62_165 (by decide) ?_
  refine xs_imul d62_168 ?_
  refine xs_iadd d62_169 ?_
  obtain ⟨h23, hc22, hf⟩ := lk_b hf
  refine xe_callv0 (as := [xi (3 : Int32), xi v2, xi (r19 + (((v3_18 - v2) - (1 : Int32)) * (400 : Int32)))]) (st := []) (h2 := h23) (d2 := d - 1) d62_170 ky62 ml10 st64 (by decide) cn64 rfl na64 (Nat.le_of_ble_eq_true rfl) (by omega) (f_Tape_addPiece_ok (by omega) hc22) ?_
  refine xs_iload_n d62_173 rfl ?_
  obtain ⟨eR, eH⟩ := K0 _ _ (Option.some.inj hf).symm
  subst eR; subst eH
  exact xs_iret d62_174 rt62
noncomputable def f_Tape_cutPiece_b121 (v2 : Int32) (v3 : Int32) (h : xH) : Option (Int32 × xH) :=
  (f_Tape_numberAt v2 v3 h).bind fun r25 =>
  (f_Tape_addPiece (2 : Int32) v2 r25 h).bind fun h29 =>
  some ((v3, h29))
set_option maxHeartbeats 4000000 in
set_option maxRecDepth 100000 in
theorem f_Tape_cutPiece_b121_ok {g : xG} {l : Launch} {d : Nat} {v2 : Int32} {v3 : Int32} {h : xH} {o : (Int32 × xH)} {R : Option xV} {H' : xH} (hD : 6 ≤ d) (hf : f_Tape_cutPiece_b121 v2 v3 h = some o) (K0 : ∀ (a : Int32) (h1 : xH), o = (a, h1) → R = some (xi a) ∧ H' = h1) : xEv g l d 62 121 [(0, xr 7 (some 0)), (2, xi v2), (3, xi v3)] [] h R H' := by
  unfold f_Tape_cutPiece_b121 at hf
  refine xs_aload_n d62_121 rfl ?_
  refine xs_iconst (v := 2) d62_122 (by decide) ?_
  refine xs_iload_n d62_123 rfl ?_
  refine xs_aload_n d62_124 rfl ?_
  refine xs_iload_n d62_125 rfl ?_
  refine xs_iload_n d62_126 rfl ?_
  obtain ⟨r25, hc26, hf⟩ := lk_b hf
  refine xe_callv1 (as := [xi v2, xi v3]) (st := [xi v2, xi (2 : Int32), xr 7 (some 0)]) (h2 := h) (d2 := d - 1) d62_127 ky62 ml15 st65 (by decide) cn65 rfl na65 (Nat.le_of_ble_eq_true rfl) (by omega) (f_Tape_numberAt_ok (by omega) hc26) ?_
  obtain ⟨h29, hc28, hf⟩ := lk_b hf
  refine xe_callv0 (as := [xi (2 : Int32), xi v2, xi r25]) (st := []) (h2 := h29) (d2 := d - 1) d62_130 ky62 ml10 st64 (by decide) cn64 rfl na64 (Nat.le_of_ble_eq_true rfl) (by omega) (f_Tape_addPiece_ok (by omega) hc28) ?_
  refine xs_goto (tgt := 173) d62_133 (by decide) ?_
  refine xs_iload_n d62_173 rfl ?_
  obtain ⟨eR, eH⟩ := K0 _ _ (Option.some.inj hf).symm
  subst eR; subst eH
  exact xs_iret d62_174 rt62
noncomputable def f_Tape_cutPiece_s100 (v2 : Int32) (v3 : Int32) (h : xH) : Option ((Int32) ⊕ (Int32 × xH)) :=
  if (400 : Int32) ≤ v3 then (
  xup (f_Tape_cutPiece_b121 v2 v3 h)) else (
  (f_Tape_isDigit v3 h).bind fun r30 =>
  if r30 = (0 : Int32) then (
  xup (f_Tape_cutPiece_b121 v2 v3 h)) else (
  xlet (v3 + (1 : Int32)) fun v3_33 =>
  some (Sum.inl v3_33)))
set_option maxHeartbeats 4000000 in
set_option maxRecDepth 100000 in
theorem f_Tape_cutPiece_s100_ok {g : xG} {l : Launch} {d : Nat} {v2 : Int32} {v3 : Int32} {h : xH} {o : ((Int32) ⊕ (Int32 × xH))} {R : Option xV} {H' : xH} (hD : 6 ≤ d) (hf : f_Tape_cutPiece_s100 v2 v3 h = some o) (K1 : ∀ (w3 : Int32), o = Sum.inl w3 → xEv g l d 62 100 [(0, xr 7 (some 0)), (2, xi v2), (3, xi w3)] [] h R H') (K0 : ∀ (a : Int32) (h1 : xH), o = Sum.inr ((a, h1)) → R = some (xi a) ∧ H' = h1) : xEv g l d 62 100 [(0, xr 7 (some 0)), (2, xi v2), (3, xi v3)] [] h R H' := by
  unfold f_Tape_cutPiece_s100 at hf
  refine xs_iload_n d62_100 rfl ?_
  refine xs_sipush (v := 400) d62_101 (by decide) ?_
  rcases lk_if hf with ⟨hc24, hf⟩ | ⟨hc24, hf⟩
  · refine xs_icmp_ge (tgt := 121) d62_104 (by decide) (fun _ => ?_) (fun hn => absurd hc24 hn)
    obtain ⟨x0, hf, ex0⟩ := lk_up hf
    exact f_Tape_cutPiece_b121_ok hD hf (fun u0 u1 e => K0 u0 u1 (ex0.trans (congrArg Sum.inr e)))
  · refine xs_icmp_ge (tgt := 121) d62_104 (by decide) (fun hp => absurd hp hc24) (fun _ => ?_)
    refine xs_aload_n d62_107 rfl ?_
    refine xs_iload_n d62_108 rfl ?_
    obtain ⟨r30, hc31, hf⟩ := lk_b hf
    refine xe_callv1 (as := [xi v3]) (st := []) (h2 := h) (d2 := d - 1) d62_109 ky62 ml14 st60 (by decide) cn60 rfl na60 (Nat.le_of_ble_eq_true rfl) (by omega) (f_Tape_isDigit_ok (by omega) hc31) ?_
    rcases lk_if hf with ⟨hc32, hf⟩ | ⟨hc32, hf⟩
    · refine xs_if_eq (tgt := 121) d62_112 (by decide) (fun _ => ?_) (fun hn => absurd hc32 hn)
      obtain ⟨x0, hf, ex0⟩ := lk_up hf
      exact f_Tape_cutPiece_b121_ok hD hf (fun u0 u1 e => K0 u0 u1 (ex0.trans (congrArg Sum.inr e)))
    · refine xs_if_eq (tgt := 121) d62_112 (by decide) (fun hp => absurd hp hc32) (fun _ => ?_)
      obtain ⟨v3_33, ev3_33, hf⟩ := lk_let hf
      refine xe_iinc (v := v3_33) (b := 1) (ls2 := [(0, xr 7 (some 0)), (2, xi v2), (3, xi v3_33)]) d62_115 mx62 (by decide) rfl (by decide) ev3_33 rfl ?_
      refine xs_goto (tgt := 100) d62_118 (by decide) ?_
      exact K1 _ (Option.some.inj hf).symm
noncomputable def f_Tape_cutPiece_l100 (v2 : Int32) (v3 : Int32) (h : xH) : Option (Int32 × xH) :=
  whl (fun s => f_Tape_cutPiece_s100 v2 s h) v3
theorem f_Tape_cutPiece_l100_ok {g : xG} {l : Launch} {d : Nat} {v2 : Int32} {v3 : Int32} {h : xH} {o : (Int32 × xH)} {R : Option xV} {H' : xH} (hD : 6 ≤ d) (hf : f_Tape_cutPiece_l100 v2 v3 h = some o) (K0 : ∀ (a : Int32) (h1 : xH), o = (a, h1) → R = some (xi a) ∧ H' = h1) : xEv g l d 62 100 [(0, xr 7 (some 0)), (2, xi v2), (3, xi v3)] [] h R H' := by
  obtain ⟨n, hn⟩ := whl_iff.mp hf
  clear hf
  induction n generalizing v3 with
  | zero => cases hn
  | succ n ih =>
    obtain ⟨o2, hs, hn⟩ := lk_b (show (f_Tape_cutPiece_s100 v2 v3 h).bind (fun o => Sum.elim (itn _ n) some o) = some o from hn)
    exact f_Tape_cutPiece_s100_ok hD hs (fun u0 e => ih (by rw [e] at hn; exact hn)) (fun u0 u1 e => K0 u0 u1 (by rw [e] at hn; exact (Option.some.inj hn).symm))
noncomputable def f_Tape_cutPiece_b77 (v2 : Int32) (v3 : Int32) (h : xH) : Option (Int32 × xH) :=
  (f_Tape_wordAt v2 v3 h).bind fun r35 =>
  (f_Tape_addPiece (1 : Int32) v2 r35 h).bind fun h39 =>
  some ((v3, h39))
set_option maxHeartbeats 4000000 in
set_option maxRecDepth 100000 in
theorem f_Tape_cutPiece_b77_ok {g : xG} {l : Launch} {d : Nat} {v2 : Int32} {v3 : Int32} {h : xH} {o : (Int32 × xH)} {R : Option xV} {H' : xH} (hD : 6 ≤ d) (hf : f_Tape_cutPiece_b77 v2 v3 h = some o) (K0 : ∀ (a : Int32) (h1 : xH), o = (a, h1) → R = some (xi a) ∧ H' = h1) : xEv g l d 62 77 [(0, xr 7 (some 0)), (2, xi v2), (3, xi v3)] [] h R H' := by
  unfold f_Tape_cutPiece_b77 at hf
  refine xs_aload_n d62_77 rfl ?_
  refine xs_iconst (v := 1) d62_78 (by decide) ?_
  refine xs_iload_n d62_79 rfl ?_
  refine xs_aload_n d62_80 rfl ?_
  refine xs_iload_n d62_81 rfl ?_
  refine xs_iload_n d62_82 rfl ?_
  obtain ⟨r35, hc36, hf⟩ := lk_b hf
  refine xe_callv1 (as := [xi v2, xi v3]) (st := [xi v2, xi (1 : Int32), xr 7 (some 0)]) (h2 := h) (d2 := d - 1) d62_83 ky62 ml12 st66 (by decide) cn66 rfl na66 (Nat.le_of_ble_eq_true rfl) (by omega) (f_Tape_wordAt_ok (by omega) hc36) ?_
  obtain ⟨h39, hc38, hf⟩ := lk_b hf
  refine xe_callv0 (as := [xi (1 : Int32), xi v2, xi r35]) (st := []) (h2 := h39) (d2 := d - 1) d62_86 ky62 ml10 st64 (by decide) cn64 rfl na64 (Nat.le_of_ble_eq_true rfl) (by omega) (f_Tape_addPiece_ok (by omega) hc38) ?_
  refine xs_goto (tgt := 173) d62_89 (by decide) ?_
  refine xs_iload_n d62_173 rfl ?_
  obtain ⟨eR, eH⟩ := K0 _ _ (Option.some.inj hf).symm
  subst eR; subst eH
  exact xs_iret d62_174 rt62
noncomputable def f_Tape_cutPiece_s56 (v2 : Int32) (v3 : Int32) (h : xH) : Option ((Int32) ⊕ (Int32 × xH)) :=
  if (400 : Int32) ≤ v3 then (
  xup (f_Tape_cutPiece_b77 v2 v3 h)) else (
  (f_Tape_isLetter v3 h).bind fun r40 =>
  if r40 = (0 : Int32) then (
  xup (f_Tape_cutPiece_b77 v2 v3 h)) else (
  xlet (v3 + (1 : Int32)) fun v3_43 =>
  some (Sum.inl v3_43)))
set_option maxHeartbeats 4000000 in
set_option maxRecDepth 100000 in
theorem f_Tape_cutPiece_s56_ok {g : xG} {l : Launch} {d : Nat} {v2 : Int32} {v3 : Int32} {h : xH} {o : ((Int32) ⊕ (Int32 × xH))} {R : Option xV} {H' : xH} (hD : 6 ≤ d) (hf : f_Tape_cutPiece_s56 v2 v3 h = some o) (K1 : ∀ (w3 : Int32), o = Sum.inl w3 → xEv g l d 62 56 [(0, xr 7 (some 0)), (2, xi v2), (3, xi w3)] [] h R H') (K0 : ∀ (a : Int32) (h1 : xH), o = Sum.inr ((a, h1)) → R = some (xi a) ∧ H' = h1) : xEv g l d 62 56 [(0, xr 7 (some 0)), (2, xi v2), (3, xi v3)] [] h R H' := by
  unfold f_Tape_cutPiece_s56 at hf
  refine xs_iload_n d62_56 rfl ?_
  refine xs_sipush (v := 400) d62_57 (by decide) ?_
  rcases lk_if hf with ⟨hc34, hf⟩ | ⟨hc34, hf⟩
  · refine xs_icmp_ge (tgt := 77) d62_60 (by decide) (fun _ => ?_) (fun hn => absurd hc34 hn)
    obtain ⟨x0, hf, ex0⟩ := lk_up hf
    exact f_Tape_cutPiece_b77_ok hD hf (fun u0 u1 e => K0 u0 u1 (ex0.trans (congrArg Sum.inr e)))
  · refine xs_icmp_ge (tgt := 77) d62_60 (by decide) (fun hp => absurd hp hc34) (fun _ => ?_)
    refine xs_aload_n d62_63 rfl ?_
    refine xs_iload_n d62_64 rfl ?_
    obtain ⟨r40, hc41, hf⟩ := lk_b hf
    refine xe_callv1 (as := [xi v3]) (st := []) (h2 := h) (d2 := d - 1) d62_65 ky62 ml11 st59 (by decide) cn59 rfl na59 (Nat.le_of_ble_eq_true rfl) (by omega) (f_Tape_isLetter_ok (by omega) hc41) ?_
    rcases lk_if hf with ⟨hc42, hf⟩ | ⟨hc42, hf⟩
    · refine xs_if_eq (tgt := 77) d62_68 (by decide) (fun _ => ?_) (fun hn => absurd hc42 hn)
      obtain ⟨x0, hf, ex0⟩ := lk_up hf
      exact f_Tape_cutPiece_b77_ok hD hf (fun u0 u1 e => K0 u0 u1 (ex0.trans (congrArg Sum.inr e)))
    · refine xs_if_eq (tgt := 77) d62_68 (by decide) (fun hp => absurd hp hc42) (fun _ => ?_)
      obtain ⟨v3_43, ev3_43, hf⟩ := lk_let hf
      refine xe_iinc (v := v3_43) (b := 1) (ls2 := [(0, xr 7 (some 0)), (2, xi v2), (3, xi v3_43)]) d62_71 mx62 (by decide) rfl (by decide) ev3_43 rfl ?_
      refine xs_goto (tgt := 56) d62_74 (by decide) ?_
      exact K1 _ (Option.some.inj hf).symm
noncomputable def f_Tape_cutPiece_l56 (v2 : Int32) (v3 : Int32) (h : xH) : Option (Int32 × xH) :=
  whl (fun s => f_Tape_cutPiece_s56 v2 s h) v3
theorem f_Tape_cutPiece_l56_ok {g : xG} {l : Launch} {d : Nat} {v2 : Int32} {v3 : Int32} {h : xH} {o : (Int32 × xH)} {R : Option xV} {H' : xH} (hD : 6 ≤ d) (hf : f_Tape_cutPiece_l56 v2 v3 h = some o) (K0 : ∀ (a : Int32) (h1 : xH), o = (a, h1) → R = some (xi a) ∧ H' = h1) : xEv g l d 62 56 [(0, xr 7 (some 0)), (2, xi v2), (3, xi v3)] [] h R H' := by
  obtain ⟨n, hn⟩ := whl_iff.mp hf
  clear hf
  induction n generalizing v3 with
  | zero => cases hn
  | succ n ih =>
    obtain ⟨o2, hs, hn⟩ := lk_b (show (f_Tape_cutPiece_s56 v2 v3 h).bind (fun o => Sum.elim (itn _ n) some o) = some o from hn)
    exact f_Tape_cutPiece_s56_ok hD hs (fun u0 e => ih (by rw [e] at hn; exact hn)) (fun u0 u1 e => K0 u0 u1 (by rw [e] at hn; exact (Option.some.inj hn).symm))
noncomputable def f_Tape_cutPiece_b25 (v2 : Int32) (h : xH) : Option (Int32 × xH) :=
  xlet (v2 + (1 : Int32)) fun v3_2 =>
  (f_Tape_byteAt v2 h).bind fun r3 =>
  if r3 = (-1 : Int32) then (
  (f_Tape_addPiece (0 : Int32) v2 (0 : Int32) h).bind fun h8 =>
  some ((v3_2, h8))) else (
  (f_Tape_isLetter v2 h).bind fun r9 =>
  if r9 = (0 : Int32) then (
  (f_Tape_isDigit v2 h).bind fun r12 =>
  if r12 = (0 : Int32) then (
  (f_Tape_isWithEqual v2 h).bind fun r15 =>
  if r15 = (0 : Int32) then (
  f_Tape_cutPiece_b150 v2 (0 : Int32) v3_2 h) else (
  f_Tape_cutPiece_b150 v2 (1 : Int32) v3_2 h)) else (
  f_Tape_cutPiece_l100 v2 v3_2 h)) else (
  f_Tape_cutPiece_l56 v2 v3_2 h))
set_option maxHeartbeats 4000000 in
set_option maxRecDepth 100000 in
theorem f_Tape_cutPiece_b25_ok {g : xG} {l : Launch} {d : Nat} {v2 : Int32} {h : xH} {o : (Int32 × xH)} {R : Option xV} {H' : xH} (hD : 6 ≤ d) (hf : f_Tape_cutPiece_b25 v2 h = some o) (K0 : ∀ (a : Int32) (h1 : xH), o = (a, h1) → R = some (xi a) ∧ H' = h1) : xEv g l d 62 25 [(0, xr 7 (some 0)), (2, xi v2)] [] h R H' := by
  unfold f_Tape_cutPiece_b25 at hf
  refine xs_iload_n d62_25 rfl ?_
  refine xs_iconst (v := 1) d62_26 (by decide) ?_
  refine xs_iadd d62_27 ?_
  obtain ⟨v3_2, ev3_2, hf⟩ := lk_let hf
  refine xe_istore_n (v := v3_2) (ls2 := [(0, xr 7 (some 0)), (2, xi v2), (3, xi v3_2)]) d62_28 mx62 (by decide) ev3_2 rfl ?_
  refine xs_aload_n d62_29 rfl ?_
  refine xs_iload_n d62_30 rfl ?_
  obtain ⟨r3, hc4, hf⟩ := lk_b hf
  refine xe_callv1 (as := [xi v2]) (st := []) (h2 := h) (d2 := d - 1) d62_31 ky62 ml9 st58 (by decide) cn58 rfl na58 (Nat.le_of_ble_eq_true rfl) (by omega) (f_Tape_byteAt_ok (by omega) hc4) ?_
  refine xs_iconst (v := -1) d62_34 (by decide) ?_
  rcases lk_if hf with ⟨hc5, hf⟩ | ⟨hc5, hf⟩
  · refine xs_icmp_ne (tgt := 48) d62_35 (by decide) (fun _ => ?_) (fun hn => absurd hc5 hn)
    refine xs_aload_n d62_38 rfl ?_
    refine xs_iconst (v := 0) d62_39 (by decide) ?_
    refine xs_iload_n d62_40 rfl ?_
    refine xs_iconst (v := 0) d62_41 (by decide) ?_
    obtain ⟨h8, hc7, hf⟩ := lk_b hf
    refine xe_callv0 (as := [xi (0 : Int32), xi v2, xi (0 : Int32)]) (st := []) (h2 := h8) (d2 := d - 1) d62_42 ky62 ml10 st64 (by decide) cn64 rfl na64 (Nat.le_of_ble_eq_true rfl) (by omega) (f_Tape_addPiece_ok (by omega) hc7) ?_
    refine xs_goto (tgt := 173) d62_45 (by decide) ?_
    refine xs_iload_n d62_173 rfl ?_
    obtain ⟨eR, eH⟩ := K0 _ _ (Option.some.inj hf).symm
    subst eR; subst eH
    exact xs_iret d62_174 rt62
  · refine xs_icmp_ne (tgt := 48) d62_35 (by decide) (fun hp => absurd hp hc5) (fun _ => ?_)
    refine xs_aload_n d62_48 rfl ?_
    refine xs_iload_n d62_49 rfl ?_
    obtain ⟨r9, hc10, hf⟩ := lk_b hf
    refine xe_callv1 (as := [xi v2]) (st := []) (h2 := h) (d2 := d - 1) d62_50 ky62 ml11 st59 (by decide) cn59 rfl na59 (Nat.le_of_ble_eq_true rfl) (by omega) (f_Tape_isLetter_ok (by omega) hc10) ?_
    rcases lk_if hf with ⟨hc11, hf⟩ | ⟨hc11, hf⟩
    · refine xs_if_eq (tgt := 92) d62_53 (by decide) (fun _ => ?_) (fun hn => absurd hc11 hn)
      refine xs_aload_n d62_92 rfl ?_
      refine xs_iload_n d62_93 rfl ?_
      obtain ⟨r12, hc13, hf⟩ := lk_b hf
      refine xe_callv1 (as := [xi v2]) (st := []) (h2 := h) (d2 := d - 1) d62_94 ky62 ml14 st60 (by decide) cn60 rfl na60 (Nat.le_of_ble_eq_true rfl) (by omega) (f_Tape_isDigit_ok (by omega) hc13) ?_
      rcases lk_if hf with ⟨hc14, hf⟩ | ⟨hc14, hf⟩
      · refine xs_if_eq (tgt := 136) d62_97 (by decide) (fun _ => ?_) (fun hn => absurd hc14 hn)
        refine xs_iload_n d62_136 rfl ?_
        refine xs_aload_n d62_137 rfl ?_
        refine xs_iload_n d62_138 rfl ?_
        obtain ⟨r15, hc16, hf⟩ := lk_b hf
        refine xe_callv1 (as := [xi v2]) (st := [xi v3_2]) (h2 := h) (d2 := d - 1) d62_139 ky62 ml16 st63 (by decide) cn63 rfl na63 (Nat.le_of_ble_eq_true rfl) (by omega) (f_Tape_isWithEqual_ok (by omega) hc16) ?_
        rcases lk_if hf with ⟨hc17, hf⟩ | ⟨hc17, hf⟩
        · refine xs_if_eq (tgt := 149) d62_142 (by decide) (fun _ => ?_) (fun hn => absurd hc17 hn)
          refine xs_iconst (v := 0) d62_149 (by decide) ?_
          refine xs_pick [0, 1] rfl ?_
          exact f_Tape_cutPiece_b150_ok hD hf K0
        · refine xs_if_eq (tgt := 149) d62_142 (by decide) (fun hp => absurd hp hc17) (fun _ => ?_)
          refine xs_iconst (v := 1) d62_145 (by decide) ?_
          refine xs_goto (tgt := 150) d62_146 (by decide) ?_
          refine xs_pick [0, 1] rfl ?_
          exact f_Tape_cutPiece_b150_ok hD hf K0
      · refine xs_if_eq (tgt := 136) d62_97 (by decide) (fun hp => absurd hp hc14) (fun _ => ?_)
        exact f_Tape_cutPiece_l100_ok hD hf K0
    · refine xs_if_eq (tgt := 92) d62_53 (by decide) (fun hp => absurd hp hc11) (fun _ => ?_)
      exact f_Tape_cutPiece_l56_ok hD hf K0
noncomputable def f_Tape_cutPiece_s2 (v2 : Int32) (h : xH) : Option ((Int32) ⊕ (Int32 × xH)) :=
  if (400 : Int32) ≤ v2 then (
  xup (f_Tape_cutPiece_b25 v2 h)) else (
  (f_Tape_byteAt v2 h).bind fun r44 =>
  if r44 = (32 : Int32) then (
  xlet (v2 + (1 : Int32)) fun v2_47 =>
  some (Sum.inl v2_47)) else (
  xup (f_Tape_cutPiece_b25 v2 h)))
set_option maxHeartbeats 4000000 in
set_option maxRecDepth 100000 in
theorem f_Tape_cutPiece_s2_ok {g : xG} {l : Launch} {d : Nat} {v2 : Int32} {h : xH} {o : ((Int32) ⊕ (Int32 × xH))} {R : Option xV} {H' : xH} (hD : 6 ≤ d) (hf : f_Tape_cutPiece_s2 v2 h = some o) (K1 : ∀ (w2 : Int32), o = Sum.inl w2 → xEv g l d 62 2 [(0, xr 7 (some 0)), (2, xi w2)] [] h R H') (K0 : ∀ (a : Int32) (h1 : xH), o = Sum.inr ((a, h1)) → R = some (xi a) ∧ H' = h1) : xEv g l d 62 2 [(0, xr 7 (some 0)), (2, xi v2)] [] h R H' := by
  unfold f_Tape_cutPiece_s2 at hf
  refine xs_iload_n d62_2 rfl ?_
  refine xs_sipush (v := 400) d62_3 (by decide) ?_
  rcases lk_if hf with ⟨hc1, hf⟩ | ⟨hc1, hf⟩
  · refine xs_icmp_ge (tgt := 25) d62_6 (by decide) (fun _ => ?_) (fun hn => absurd hc1 hn)
    obtain ⟨x0, hf, ex0⟩ := lk_up hf
    exact f_Tape_cutPiece_b25_ok hD hf (fun u0 u1 e => K0 u0 u1 (ex0.trans (congrArg Sum.inr e)))
  · refine xs_icmp_ge (tgt := 25) d62_6 (by decide) (fun hp => absurd hp hc1) (fun _ => ?_)
    refine xs_aload_n d62_9 rfl ?_
    refine xs_iload_n d62_10 rfl ?_
    obtain ⟨r44, hc45, hf⟩ := lk_b hf
    refine xe_callv1 (as := [xi v2]) (st := []) (h2 := h) (d2 := d - 1) d62_11 ky62 ml9 st58 (by decide) cn58 rfl na58 (Nat.le_of_ble_eq_true rfl) (by omega) (f_Tape_byteAt_ok (by omega) hc45) ?_
    refine xs_bipush (v := 32) d62_14 (by decide) ?_
    rcases lk_if hf with ⟨hc46, hf⟩ | ⟨hc46, hf⟩
    · refine xs_icmp_ne (tgt := 25) d62_16 (by decide) (fun _ => ?_) (fun hn => absurd hc46 hn)
      obtain ⟨v2_47, ev2_47, hf⟩ := lk_let hf
      refine xe_iinc (v := v2_47) (b := 1) (ls2 := [(0, xr 7 (some 0)), (2, xi v2_47)]) d62_19 mx62 (by decide) rfl (by decide) ev2_47 rfl ?_
      refine xs_goto (tgt := 2) d62_22 (by decide) ?_
      exact K1 _ (Option.some.inj hf).symm
    · refine xs_icmp_ne (tgt := 25) d62_16 (by decide) (fun hp => absurd hp hc46) (fun _ => ?_)
      obtain ⟨x0, hf, ex0⟩ := lk_up hf
      exact f_Tape_cutPiece_b25_ok hD hf (fun u0 u1 e => K0 u0 u1 (ex0.trans (congrArg Sum.inr e)))
noncomputable def f_Tape_cutPiece_l2 (v2 : Int32) (h : xH) : Option (Int32 × xH) :=
  whl (fun s => f_Tape_cutPiece_s2 s h) v2
theorem f_Tape_cutPiece_l2_ok {g : xG} {l : Launch} {d : Nat} {v2 : Int32} {h : xH} {o : (Int32 × xH)} {R : Option xV} {H' : xH} (hD : 6 ≤ d) (hf : f_Tape_cutPiece_l2 v2 h = some o) (K0 : ∀ (a : Int32) (h1 : xH), o = (a, h1) → R = some (xi a) ∧ H' = h1) : xEv g l d 62 2 [(0, xr 7 (some 0)), (2, xi v2)] [] h R H' := by
  obtain ⟨n, hn⟩ := whl_iff.mp hf
  clear hf
  induction n generalizing v2 with
  | zero => cases hn
  | succ n ih =>
    obtain ⟨o2, hs, hn⟩ := lk_b (show (f_Tape_cutPiece_s2 v2 h).bind (fun o => Sum.elim (itn _ n) some o) = some o from hn)
    exact f_Tape_cutPiece_s2_ok hD hs (fun u0 e => ih (by rw [e] at hn; exact hn)) (fun u0 u1 e => K0 u0 u1 (by rw [e] at hn; exact (Option.some.inj hn).symm))
noncomputable def f_Tape_cutPiece_e (v1 : Int32) (h : xH) : Option (Int32 × xH) :=
  f_Tape_cutPiece_l2 v1 h
set_option maxHeartbeats 4000000 in
set_option maxRecDepth 100000 in
theorem f_Tape_cutPiece_e_ok {g : xG} {l : Launch} {d : Nat} {v1 : Int32} {h : xH} {o : (Int32 × xH)} {R : Option xV} {H' : xH} (hD : 6 ≤ d) (hf : f_Tape_cutPiece_e v1 h = some o) (K0 : ∀ (a : Int32) (h1 : xH), o = (a, h1) → R = some (xi a) ∧ H' = h1) : xEv g l d 62 0 [(0, xr 7 (some 0)), (1, xi v1)] [] h R H' := by
  unfold f_Tape_cutPiece_e at hf
  refine xs_iload_n d62_0 rfl ?_
  refine xe_istore_n (v := v1) (ls2 := [(0, xr 7 (some 0)), (1, xi v1), (2, xi v1)]) d62_1 mx62 (by decide) rfl rfl ?_
  refine xs_pick [0, 2] rfl ?_
  exact f_Tape_cutPiece_l2_ok hD hf K0
noncomputable def f_Tape_cutPiece (v1 : Int32) (h : xH) : Option (Int32 × xH) := f_Tape_cutPiece_e v1 h
theorem f_Tape_cutPiece_ok {g : xG} {l : Launch} {d : Nat} {v1 : Int32} {h : xH} {r : Int32} {h1 : xH} (hD : 6 ≤ d) (hf : f_Tape_cutPiece v1 h = some (r, h1)) : xC g l d 62 [xr 7 (some 0), xi v1] h (some (xi r)) h1 :=
  xC_of2 (by decide) mx62 (Nat.le_of_ble_eq_true rfl) (f_Tape_cutPiece_e_ok hD hf (fun _ _ e => by cases e; exact ⟨rfl, rfl⟩))
theorem d61_0 : decode (xcode 61) 0 = .ok (.aload_n 0, 1) := by decide +kernel
theorem d61_1 : decode (xcode 61) 1 = .ok (.iconst 0, 1) := by decide +kernel
theorem d61_2 : decode (xcode 61) 2 = .ok (.putfield 33, 3) := by decide +kernel
theorem d61_5 : decode (xcode 61) 5 = .ok (.aload_n 0, 1) := by decide +kernel
theorem d61_6 : decode (xcode 61) 6 = .ok (.iconst 0, 1) := by decide +kernel
theorem d61_7 : decode (xcode 61) 7 = .ok (.putfield 36, 3) := by decide +kernel
theorem d61_10 : decode (xcode 61) 10 = .ok (.iconst 0, 1) := by decide +kernel
theorem d61_11 : decode (xcode 61) 11 = .ok (.istore_n 1, 1) := by decide +kernel
theorem d61_12 : decode (xcode 61) 12 = .ok (.iconst 0, 1) := by decide +kernel
theorem d61_13 : decode (xcode 61) 13 = .ok (.istore_n 2, 1) := by decide +kernel
theorem d61_14 : decode (xcode 61) 14 = .ok (.iload_n 2, 1) := by decide +kernel
theorem d61_15 : decode (xcode 61) 15 = .ok (.sipush 400, 3) := by decide +kernel
theorem d61_18 : decode (xcode 61) 18 = .ok (.if_icmp .gt 23, 3) := by decide +kernel
theorem d61_21 : decode (xcode 61) 21 = .ok (.iload_n 1, 1) := by decide +kernel
theorem d61_22 : decode (xcode 61) 22 = .ok (.aload_n 0, 1) := by decide +kernel
theorem d61_23 : decode (xcode 61) 23 = .ok (.getfield 25, 3) := by decide +kernel
theorem d61_26 : decode (xcode 61) 26 = .ok (.if_icmp .gt 15, 3) := by decide +kernel
theorem d61_29 : decode (xcode 61) 29 = .ok (.aload_n 0, 1) := by decide +kernel
theorem d61_30 : decode (xcode 61) 30 = .ok (.iload_n 1, 1) := by decide +kernel
theorem d61_31 : decode (xcode 61) 31 = .ok (.invokevirtual 39, 3) := by decide +kernel
theorem d61_34 : decode (xcode 61) 34 = .ok (.istore_n 1, 1) := by decide +kernel
theorem d61_35 : decode (xcode 61) 35 = .ok (.iinc 2 1, 3) := by decide +kernel
theorem d61_38 : decode (xcode 61) 38 = .ok (.goto (-24), 3) := by decide +kernel
theorem d61_41 : decode (xcode 61) 41 = .ok (.aload_n 0, 1) := by decide +kernel
theorem d61_42 : decode (xcode 61) 42 = .ok (.iconst (-1), 1) := by decide +kernel
theorem d61_43 : decode (xcode 61) 43 = .ok (.putfield 42, 3) := by decide +kernel
theorem d61_46 : decode (xcode 61) 46 = .ok (.aload_n 0, 1) := by decide +kernel
theorem d61_47 : decode (xcode 61) 47 = .ok (.invokevirtual 45, 3) := by decide +kernel
theorem d61_50 : decode (xcode 61) 50 = .ok (.return_, 1) := by decide +kernel
noncomputable def f_Tape_rewind_b41 (h : xH) : Option xH :=
  xlet (xsI h 7 5 0 (-1 : Int32)) fun h4 =>
  (f_Tape_goOn h4).bind fun h7 =>
  some (h7)
set_option maxHeartbeats 4000000 in
set_option maxRecDepth 100000 in
theorem f_Tape_rewind_b41_ok {g : xG} {l : Launch} {d : Nat} {h : xH} {o : xH} {R : Option xV} {H' : xH} (hD : 7 ≤ d) (hf : f_Tape_rewind_b41 h = some o) (K0 : ∀ (h1 : xH), o = h1 → R = none ∧ H' = h1) : xEv g l d 61 41 [(0, xr 7 (some 0))] [] h R H' := by
  unfold f_Tape_rewind_b41 at hf
  refine xs_aload_n d61_41 rfl ?_
  refine xs_iconst (v := -1) d61_42 (by decide) ?_
  obtain ⟨h4, eh4, hf⟩ := lk_let hf
  refine xe_puti d61_43 ky61 fl5 fk7_5 ft7_5 eh4 ?_
  refine xs_aload_n d61_46 rfl ?_
  obtain ⟨h7, hc6, hf⟩ := lk_b hf
  refine xe_callv0 (as := []) (st := []) (h2 := h7) (d2 := d - 1) d61_47 ky61 ml17 st68 (by decide) cn68 rfl na68 (Nat.le_of_ble_eq_true rfl) (by omega) (f_Tape_goOn_ok (by omega) hc6) ?_
  obtain ⟨eR, eH⟩ := K0 _ (Option.some.inj hf).symm
  subst eR; subst eH
  exact xs_vret d61_50 rt61
noncomputable def f_Tape_rewind_s14 (v1 : Int32) (v2 : Int32) (h : xH) : Option ((Int32 × Int32 × xH) ⊕ xH) :=
  if (400 : Int32) < v2 then (
  xup (f_Tape_rewind_b41 h)) else (
  if (h.1 7 6 0) < v1 then (
  xup (f_Tape_rewind_b41 h)) else (
  (f_Tape_cutPiece v1 h).bind fun q11 =>
  xlet (v2 + (1 : Int32)) fun v2_12 =>
  some (Sum.inl (q11.1, v2_12, q11.2))))
set_option maxHeartbeats 4000000 in
set_option maxRecDepth 100000 in
theorem f_Tape_rewind_s14_ok {g : xG} {l : Launch} {d : Nat} {v1 : Int32} {v2 : Int32} {h : xH} {o : ((Int32 × Int32 × xH) ⊕ xH)} {R : Option xV} {H' : xH} (hD : 7 ≤ d) (hf : f_Tape_rewind_s14 v1 v2 h = some o) (K1 : ∀ (w1 : Int32) (w2 : Int32) (h1 : xH), o = Sum.inl (w1, w2, h1) → xEv g l d 61 14 [(0, xr 7 (some 0)), (1, xi w1), (2, xi w2)] [] h1 R H') (K0 : ∀ (h1 : xH), o = Sum.inr (h1) → R = none ∧ H' = h1) : xEv g l d 61 14 [(0, xr 7 (some 0)), (1, xi v1), (2, xi v2)] [] h R H' := by
  unfold f_Tape_rewind_s14 at hf
  refine xs_iload_n d61_14 rfl ?_
  refine xs_sipush (v := 400) d61_15 (by decide) ?_
  rcases lk_if hf with ⟨hc3, hf⟩ | ⟨hc3, hf⟩
  · refine xs_icmp_gt (tgt := 41) d61_18 (by decide) (fun _ => ?_) (fun hn => absurd hc3 hn)
    refine xs_pick [0] rfl ?_
    obtain ⟨x0, hf, ex0⟩ := lk_up hf
    exact f_Tape_rewind_b41_ok hD hf (fun u0 e => K0 u0 (ex0.trans (congrArg Sum.inr e)))
  · refine xs_icmp_gt (tgt := 41) d61_18 (by decide) (fun hp => absurd hp hc3) (fun _ => ?_)
    refine xs_iload_n d61_21 rfl ?_
    refine xs_aload_n d61_22 rfl ?_
    refine xe_geti d61_23 ky61 fl6 fk7_6 ?_
    rcases lk_if hf with ⟨hc8, hf⟩ | ⟨hc8, hf⟩
    · refine xs_icmp_gt (tgt := 41) d61_26 (by decide) (fun _ => ?_) (fun hn => absurd hc8 hn)
      refine xs_pick [0] rfl ?_
      obtain ⟨x0, hf, ex0⟩ := lk_up hf
      exact f_Tape_rewind_b41_ok hD hf (fun u0 e => K0 u0 (ex0.trans (congrArg Sum.inr e)))
    · refine xs_icmp_gt (tgt := 41) d61_26 (by decide) (fun hp => absurd hp hc8) (fun _ => ?_)
      refine xs_aload_n d61_29 rfl ?_
      refine xs_iload_n d61_30 rfl ?_
      obtain ⟨q11, hc10, hf⟩ := lk_b hf
      refine xe_callv1 (as := [xi v1]) (st := []) (h2 := q11.2) (d2 := d - 1) d61_31 ky61 ml8 st62 (by decide) cn62 rfl na62 (Nat.le_of_ble_eq_true rfl) (by omega) (f_Tape_cutPiece_ok (by omega) hc10) ?_
      refine xe_istore_n (v := q11.1) (ls2 := [(0, xr 7 (some 0)), (1, xi q11.1), (2, xi v2)]) d61_34 mx61 (by decide) rfl rfl ?_
      obtain ⟨v2_12, ev2_12, hf⟩ := lk_let hf
      refine xe_iinc (v := v2_12) (b := 1) (ls2 := [(0, xr 7 (some 0)), (1, xi q11.1), (2, xi v2_12)]) d61_35 mx61 (by decide) rfl (by decide) ev2_12 rfl ?_
      refine xs_goto (tgt := 14) d61_38 (by decide) ?_
      exact K1 _ _ _ (Option.some.inj hf).symm
noncomputable def f_Tape_rewind_l14 (v1 : Int32) (v2 : Int32) (h : xH) : Option xH :=
  whl (fun s => f_Tape_rewind_s14 s.1 s.2.1 s.2.2) (v1, v2, h)
theorem f_Tape_rewind_l14_ok {g : xG} {l : Launch} {d : Nat} {v1 : Int32} {v2 : Int32} {h : xH} {o : xH} {R : Option xV} {H' : xH} (hD : 7 ≤ d) (hf : f_Tape_rewind_l14 v1 v2 h = some o) (K0 : ∀ (h1 : xH), o = h1 → R = none ∧ H' = h1) : xEv g l d 61 14 [(0, xr 7 (some 0)), (1, xi v1), (2, xi v2)] [] h R H' := by
  obtain ⟨n, hn⟩ := whl_iff.mp hf
  clear hf
  induction n generalizing v1 v2 h with
  | zero => cases hn
  | succ n ih =>
    obtain ⟨o2, hs, hn⟩ := lk_b (show (f_Tape_rewind_s14 v1 v2 h).bind (fun o => Sum.elim (itn _ n) some o) = some o from hn)
    exact f_Tape_rewind_s14_ok hD hs (fun u0 u1 u2 e => ih (by rw [e] at hn; exact hn)) (fun u0 e => K0 u0 (by rw [e] at hn; exact (Option.some.inj hn).symm))
noncomputable def f_Tape_rewind_e (h : xH) : Option xH :=
  xlet (xsI h 7 9 0 (0 : Int32)) fun h1 =>
  xlet (xsI h1 7 4 0 (0 : Int32)) fun h2 =>
  f_Tape_rewind_l14 (0 : Int32) (0 : Int32) h2
set_option maxHeartbeats 4000000 in
set_option maxRecDepth 100000 in
theorem f_Tape_rewind_e_ok {g : xG} {l : Launch} {d : Nat} {h : xH} {o : xH} {R : Option xV} {H' : xH} (hD : 7 ≤ d) (hf : f_Tape_rewind_e h = some o) (K0 : ∀ (h1 : xH), o = h1 → R = none ∧ H' = h1) : xEv g l d 61 0 [(0, xr 7 (some 0))] [] h R H' := by
  unfold f_Tape_rewind_e at hf
  refine xs_aload_n d61_0 rfl ?_
  refine xs_iconst (v := 0) d61_1 (by decide) ?_
  obtain ⟨h1, eh1, hf⟩ := lk_let hf
  refine xe_puti d61_2 ky61 fl16 fk7_9 ft7_9 eh1 ?_
  refine xs_aload_n d61_5 rfl ?_
  refine xs_iconst (v := 0) d61_6 (by decide) ?_
  obtain ⟨h2, eh2, hf⟩ := lk_let hf
  refine xe_puti d61_7 ky61 fl4 fk7_4 ft7_4 eh2 ?_
  refine xs_iconst (v := 0) d61_10 (by decide) ?_
  refine xe_istore_n (v := (0 : Int32)) (ls2 := [(0, xr 7 (some 0)), (1, xi (0 : Int32))]) d61_11 mx61 (by decide) rfl rfl ?_
  refine xs_iconst (v := 0) d61_12 (by decide) ?_
  refine xe_istore_n (v := (0 : Int32)) (ls2 := [(0, xr 7 (some 0)), (1, xi (0 : Int32)), (2, xi (0 : Int32))]) d61_13 mx61 (by decide) rfl rfl ?_
  exact f_Tape_rewind_l14_ok hD hf K0
noncomputable def f_Tape_rewind (h : xH) : Option xH := f_Tape_rewind_e h
theorem f_Tape_rewind_ok {g : xG} {l : Launch} {d : Nat} {h : xH} {h1 : xH} (hD : 7 ≤ d) (hf : f_Tape_rewind h = some h1) : xC g l d 61 [xr 7 (some 0)] h none h1 :=
  xC_of2 (by decide) mx61 (Nat.le_of_ble_eq_true rfl) (f_Tape_rewind_e_ok hD hf (fun _ e => ⟨rfl, e⟩))
theorem d72_0 : decode (xcode 72) 0 = .ok (.aload_n 0, 1) := by decide +kernel
theorem d72_1 : decode (xcode 72) 1 = .ok (.getfield 84, 3) := by decide +kernel
theorem d72_4 : decode (xcode 72) 4 = .ok (.iconst 1, 1) := by decide +kernel
theorem d72_5 : decode (xcode 72) 5 = .ok (.if_icmp .ne 15, 3) := by decide +kernel
theorem d72_8 : decode (xcode 72) 8 = .ok (.aload_n 0, 1) := by decide +kernel
theorem d72_9 : decode (xcode 72) 9 = .ok (.getfield 87, 3) := by decide +kernel
theorem d72_12 : decode (xcode 72) 12 = .ok (.iload_n 1, 1) := by decide +kernel
theorem d72_13 : decode (xcode 72) 13 = .ok (.if_icmp .ne 7, 3) := by decide +kernel
theorem d72_16 : decode (xcode 72) 16 = .ok (.iconst 1, 1) := by decide +kernel
theorem d72_17 : decode (xcode 72) 17 = .ok (.goto 4, 3) := by decide +kernel
theorem d72_20 : decode (xcode 72) 20 = .ok (.iconst 0, 1) := by decide +kernel
theorem d72_21 : decode (xcode 72) 21 = .ok (.ireturn, 1) := by decide +kernel
noncomputable def f_Tape_isWord_e (v1 : Int32) (h : xH) : Option Int32 :=
  if (h.1 7 7 0) = (1 : Int32) then (
  if (h.1 7 8 0) = v1 then (
  some ((1 : Int32))) else (
  some ((0 : Int32)))) else (
  some ((0 : Int32)))
set_option maxHeartbeats 4000000 in
set_option maxRecDepth 100000 in
theorem f_Tape_isWord_e_ok {g : xG} {l : Launch} {d : Nat} {v1 : Int32} {h : xH} {o : Int32} {R : Option xV} (hD : 0 ≤ d) (hf : f_Tape_isWord_e v1 h = some o) (K0 : ∀ (a : Int32), o = a → R = some (xi a)) : xEv g l d 72 0 [(0, xr 7 (some 0)), (1, xi v1)] [] h R h := by
  unfold f_Tape_isWord_e at hf
  refine xs_aload_n d72_0 rfl ?_
  refine xe_geti d72_1 ky72 fl10 fk7_7 ?_
  refine xs_iconst (v := 1) d72_4 (by decide) ?_
  rcases lk_if hf with ⟨hc1, hf⟩ | ⟨hc1, hf⟩
  · refine xs_icmp_ne (tgt := 20) d72_5 (by decide) (fun _ => ?_) (fun hn => absurd hc1 hn)
    refine xs_aload_n d72_8 rfl ?_
    refine xe_geti d72_9 ky72 fl13 fk7_8 ?_
    refine xs_iload_n d72_12 rfl ?_
    rcases lk_if hf with ⟨hc2, hf⟩ | ⟨hc2, hf⟩
    · refine xs_icmp_ne (tgt := 20) d72_13 (by decide) (fun _ => ?_) (fun hn => absurd hc2 hn)
      refine xs_iconst (v := 1) d72_16 (by decide) ?_
      refine xs_goto (tgt := 21) d72_17 (by decide) ?_
      obtain eR := K0 _ (Option.some.inj hf).symm
      subst eR
      exact xe_zret d72_21 (Or.inr rfl) rt72
    · refine xs_icmp_ne (tgt := 20) d72_13 (by decide) (fun hp => absurd hp hc2) (fun _ => ?_)
      refine xs_iconst (v := 0) d72_20 (by decide) ?_
      obtain eR := K0 _ (Option.some.inj hf).symm
      subst eR
      exact xe_zret d72_21 (Or.inl rfl) rt72
  · refine xs_icmp_ne (tgt := 20) d72_5 (by decide) (fun hp => absurd hp hc1) (fun _ => ?_)
    refine xs_iconst (v := 0) d72_20 (by decide) ?_
    obtain eR := K0 _ (Option.some.inj hf).symm
    subst eR
    exact xe_zret d72_21 (Or.inl rfl) rt72
noncomputable def f_Tape_isWord (v1 : Int32) (h : xH) : Option Int32 := f_Tape_isWord_e v1 h
theorem f_Tape_isWord_ok {g : xG} {l : Launch} {d : Nat} {v1 : Int32} {h : xH} {r : Int32} (hD : 0 ≤ d) (hf : f_Tape_isWord v1 h = some r) : xC g l d 72 [xr 7 (some 0), xi v1] h (some (xi r)) h :=
  xC_of2 (by decide) mx72 (Nat.le_of_ble_eq_true rfl) (f_Tape_isWord_e_ok hD hf (fun _ e => by rw [e]))
theorem d70_0 : decode (xcode 70) 0 = .ok (.aload_n 0, 1) := by decide +kernel
theorem d70_1 : decode (xcode 70) 1 = .ok (.getfield 33, 3) := by decide +kernel
theorem d70_4 : decode (xcode 70) 4 = .ok (.ifCond .ne 40, 3) := by decide +kernel
theorem d70_7 : decode (xcode 70) 7 = .ok (.aload_n 0, 1) := by decide +kernel
theorem d70_8 : decode (xcode 70) 8 = .ok (.getfield 42, 3) := by decide +kernel
theorem d70_11 : decode (xcode 70) 11 = .ok (.ifCond .lt 33, 3) := by decide +kernel
theorem d70_14 : decode (xcode 70) 14 = .ok (.aload_n 0, 1) := by decide +kernel
theorem d70_15 : decode (xcode 70) 15 = .ok (.getfield 42, 3) := by decide +kernel
theorem d70_18 : decode (xcode 70) 18 = .ok (.sipush 400, 3) := by decide +kernel
theorem d70_21 : decode (xcode 70) 21 = .ok (.if_icmp .gt 23, 3) := by decide +kernel
theorem d70_24 : decode (xcode 70) 24 = .ok (.aload_n 0, 1) := by decide +kernel
theorem d70_25 : decode (xcode 70) 25 = .ok (.iconst 1, 1) := by decide +kernel
theorem d70_26 : decode (xcode 70) 26 = .ok (.bipush 8, 2) := by decide +kernel
theorem d70_28 : decode (xcode 70) 28 = .ok (.aload_n 0, 1) := by decide +kernel
theorem d70_29 : decode (xcode 70) 29 = .ok (.getfield 19, 3) := by decide +kernel
theorem d70_32 : decode (xcode 70) 32 = .ok (.aload_n 0, 1) := by decide +kernel
theorem d70_33 : decode (xcode 70) 33 = .ok (.getfield 42, 3) := by decide +kernel
theorem d70_36 : decode (xcode 70) 36 = .ok (.iaload, 1) := by decide +kernel
theorem d70_37 : decode (xcode 70) 37 = .ok (.imul, 1) := by decide +kernel
theorem d70_38 : decode (xcode 70) 38 = .ok (.iadd, 1) := by decide +kernel
theorem d70_39 : decode (xcode 70) 39 = .ok (.iload_n 1, 1) := by decide +kernel
theorem d70_40 : decode (xcode 70) 40 = .ok (.iadd, 1) := by decide +kernel
theorem d70_41 : decode (xcode 70) 41 = .ok (.putfield 33, 3) := by decide +kernel
theorem d70_44 : decode (xcode 70) 44 = .ok (.return_, 1) := by decide +kernel
noncomputable def f_Tape_fail_e (v1 : Int32) (h : xH) : Option xH :=
  if (h.1 7 9 0) = (0 : Int32) then (
  if (h.1 7 5 0) < (0 : Int32) then (
  some (h)) else (
  if (400 : Int32) < (h.1 7 5 0) then (
  some (h)) else (
  if xib (h.1 7 5 0) 401 then (
  xlet (xsI h 7 9 0 (((1 : Int32) + ((8 : Int32) * (h.2.2.2.1 35 0 (h.1 7 5 0).toNatClampNeg))) + v1)) fun h5 =>
  some (h5)) else none))) else (
  some (h))
set_option maxHeartbeats 4000000 in
set_option maxRecDepth 100000 in
theorem f_Tape_fail_e_ok {g : xG} {l : Launch} {d : Nat} {v1 : Int32} {h : xH} {o : xH} {R : Option xV} {H' : xH} (hD : 0 ≤ d) (hf : f_Tape_fail_e v1 h = some o) (K0 : ∀ (h1 : xH), o = h1 → R = none ∧ H' = h1) : xEv g l d 70 0 [(0, xr 7 (some 0)), (1, xi v1)] [] h R H' := by
  unfold f_Tape_fail_e at hf
  refine xs_aload_n d70_0 rfl ?_
  refine xe_geti d70_1 ky70 fl16 fk7_9 ?_
  rcases lk_if hf with ⟨hc1, hf⟩ | ⟨hc1, hf⟩
  · refine xs_if_ne (tgt := 44) d70_4 (by decide) (fun _ => ?_) (fun hn => absurd hc1 hn)
    refine xs_aload_n d70_7 rfl ?_
    refine xe_geti d70_8 ky70 fl5 fk7_5 ?_
    rcases lk_if hf with ⟨hc2, hf⟩ | ⟨hc2, hf⟩
    · refine xs_if_lt (tgt := 44) d70_11 (by decide) (fun _ => ?_) (fun hn => absurd hc2 hn)
      obtain ⟨eR, eH⟩ := K0 _ (Option.some.inj hf).symm
      subst eR; subst eH
      exact xs_vret d70_44 rt70
    · refine xs_if_lt (tgt := 44) d70_11 (by decide) (fun hp => absurd hp hc2) (fun _ => ?_)
      refine xs_aload_n d70_14 rfl ?_
      refine xe_geti d70_15 ky70 fl5 fk7_5 ?_
      refine xs_sipush (v := 400) d70_18 (by decide) ?_
      rcases lk_if hf with ⟨hc3, hf⟩ | ⟨hc3, hf⟩
      · refine xs_icmp_gt (tgt := 44) d70_21 (by decide) (fun _ => ?_) (fun hn => absurd hc3 hn)
        obtain ⟨eR, eH⟩ := K0 _ (Option.some.inj hf).symm
        subst eR; subst eH
        exact xs_vret d70_44 rt70
      · refine xs_icmp_gt (tgt := 44) d70_21 (by decide) (fun hp => absurd hp hc3) (fun _ => ?_)
        refine xs_aload_n d70_24 rfl ?_
        refine xs_iconst (v := 1) d70_25 (by decide) ?_
        refine xs_bipush (v := 8) d70_26 (by decide) ?_
        refine xs_aload_n d70_28 rfl ?_
        refine xe_getc (j := 0) d70_29 ky70 fl2 fk7_2 rfl ?_
        refine xs_aload_n d70_32 rfl ?_
        refine xe_geti d70_33 ky70 fl5 fk7_5 ?_
        obtain ⟨hin4, hf⟩ := lk_g hf
        refine xe_iald d70_36 (by decide) ak35 hin4 ?_
        refine xs_imul d70_37 ?_
        refine xs_iadd d70_38 ?_
        refine xs_iload_n d70_39 rfl ?_
        refine xs_iadd d70_40 ?_
        obtain ⟨h5, eh5, hf⟩ := lk_let hf
        refine xe_puti d70_41 ky70 fl16 fk7_9 ft7_9 eh5 ?_
        obtain ⟨eR, eH⟩ := K0 _ (Option.some.inj hf).symm
        subst eR; subst eH
        exact xs_vret d70_44 rt70
  · refine xs_if_ne (tgt := 44) d70_4 (by decide) (fun hp => absurd hp hc1) (fun _ => ?_)
    obtain ⟨eR, eH⟩ := K0 _ (Option.some.inj hf).symm
    subst eR; subst eH
    exact xs_vret d70_44 rt70
noncomputable def f_Tape_fail (v1 : Int32) (h : xH) : Option xH := f_Tape_fail_e v1 h
theorem f_Tape_fail_ok {g : xG} {l : Launch} {d : Nat} {v1 : Int32} {h : xH} {h1 : xH} (hD : 0 ≤ d) (hf : f_Tape_fail v1 h = some h1) : xC g l d 70 [xr 7 (some 0), xi v1] h none h1 :=
  xC_of2 (by decide) mx70 (Nat.le_of_ble_eq_true rfl) (f_Tape_fail_e_ok hD hf (fun _ e => ⟨rfl, e⟩))
theorem d23_0 : decode (xcode 23) 0 = .ok (.aload_n 0, 1) := by decide +kernel
theorem d23_1 : decode (xcode 23) 1 = .ok (.getfield 9, 3) := by decide +kernel
theorem d23_4 : decode (xcode 23) 4 = .ok (.getfield 88, 3) := by decide +kernel
theorem d23_7 : decode (xcode 23) 7 = .ok (.iconst 2, 1) := by decide +kernel
theorem d23_8 : decode (xcode 23) 8 = .ok (.if_icmp .ne 7, 3) := by decide +kernel
theorem d23_11 : decode (xcode 23) 11 = .ok (.iconst 1, 1) := by decide +kernel
theorem d23_12 : decode (xcode 23) 12 = .ok (.goto 4, 3) := by decide +kernel
theorem d23_15 : decode (xcode 23) 15 = .ok (.iconst 0, 1) := by decide +kernel
theorem d23_16 : decode (xcode 23) 16 = .ok (.istore_n 1, 1) := by decide +kernel
theorem d23_17 : decode (xcode 23) 17 = .ok (.aload_n 0, 1) := by decide +kernel
theorem d23_18 : decode (xcode 23) 18 = .ok (.getfield 9, 3) := by decide +kernel
theorem d23_21 : decode (xcode 23) 21 = .ok (.getfield 88, 3) := by decide +kernel
theorem d23_24 : decode (xcode 23) 24 = .ok (.iconst 1, 1) := by decide +kernel
theorem d23_25 : decode (xcode 23) 25 = .ok (.if_icmp .ne 29, 3) := by decide +kernel
theorem d23_28 : decode (xcode 23) 28 = .ok (.aload_n 0, 1) := by decide +kernel
theorem d23_29 : decode (xcode 23) 29 = .ok (.getfield 9, 3) := by decide +kernel
theorem d23_32 : decode (xcode 23) 32 = .ok (.getfield 91, 3) := by decide +kernel
theorem d23_35 : decode (xcode 23) 35 = .ok (.ifCond .lt 19, 3) := by decide +kernel
theorem d23_38 : decode (xcode 23) 38 = .ok (.aload_n 0, 1) := by decide +kernel
theorem d23_39 : decode (xcode 23) 39 = .ok (.getfield 9, 3) := by decide +kernel
theorem d23_42 : decode (xcode 23) 42 = .ok (.getfield 91, 3) := by decide +kernel
theorem d23_45 : decode (xcode 23) 45 = .ok (.bipush 12, 2) := by decide +kernel
theorem d23_47 : decode (xcode 23) 47 = .ok (.if_icmp .ge 7, 3) := by decide +kernel
theorem d23_50 : decode (xcode 23) 50 = .ok (.iconst 1, 1) := by decide +kernel
theorem d23_51 : decode (xcode 23) 51 = .ok (.goto 4, 3) := by decide +kernel
theorem d23_54 : decode (xcode 23) 54 = .ok (.iconst 0, 1) := by decide +kernel
theorem d23_55 : decode (xcode 23) 55 = .ok (.istore_n 2, 1) := by decide +kernel
theorem d23_56 : decode (xcode 23) 56 = .ok (.iload_n 1, 1) := by decide +kernel
theorem d23_57 : decode (xcode 23) 57 = .ok (.ifCond .ne 15, 3) := by decide +kernel
theorem d23_60 : decode (xcode 23) 60 = .ok (.iload_n 2, 1) := by decide +kernel
theorem d23_61 : decode (xcode 23) 61 = .ok (.ifCond .ne 11, 3) := by decide +kernel
theorem d23_64 : decode (xcode 23) 64 = .ok (.aload_n 0, 1) := by decide +kernel
theorem d23_65 : decode (xcode 23) 65 = .ok (.getfield 9, 3) := by decide +kernel
theorem d23_68 : decode (xcode 23) 68 = .ok (.iconst 0, 1) := by decide +kernel
theorem d23_69 : decode (xcode 23) 69 = .ok (.invokevirtual 50, 3) := by decide +kernel
theorem d23_72 : decode (xcode 23) 72 = .ok (.iload_n 1, 1) := by decide +kernel
theorem d23_73 : decode (xcode 23) 73 = .ok (.ifCond .eq 22, 3) := by decide +kernel
theorem d23_76 : decode (xcode 23) 76 = .ok (.aload_n 0, 1) := by decide +kernel
theorem d23_77 : decode (xcode 23) 77 = .ok (.getfield 9, 3) := by decide +kernel
theorem d23_80 : decode (xcode 23) 80 = .ok (.getfield 91, 3) := by decide +kernel
theorem d23_83 : decode (xcode 23) 83 = .ok (.iconst (-1), 1) := by decide +kernel
theorem d23_84 : decode (xcode 23) 84 = .ok (.if_icmp .ne 11, 3) := by decide +kernel
theorem d23_87 : decode (xcode 23) 87 = .ok (.aload_n 0, 1) := by decide +kernel
theorem d23_88 : decode (xcode 23) 88 = .ok (.getfield 9, 3) := by decide +kernel
theorem d23_91 : decode (xcode 23) 91 = .ok (.iconst 1, 1) := by decide +kernel
theorem d23_92 : decode (xcode 23) 92 = .ok (.invokevirtual 50, 3) := by decide +kernel
theorem d23_95 : decode (xcode 23) 95 = .ok (.aload_n 0, 1) := by decide +kernel
theorem d23_96 : decode (xcode 23) 96 = .ok (.getfield 28, 3) := by decide +kernel
theorem d23_99 : decode (xcode 23) 99 = .ok (.bipush 60, 2) := by decide +kernel
theorem d23_101 : decode (xcode 23) 101 = .ok (.if_icmp .lt 11, 3) := by decide +kernel
theorem d23_104 : decode (xcode 23) 104 = .ok (.aload_n 0, 1) := by decide +kernel
theorem d23_105 : decode (xcode 23) 105 = .ok (.getfield 9, 3) := by decide +kernel
theorem d23_108 : decode (xcode 23) 108 = .ok (.iconst 3, 1) := by decide +kernel
theorem d23_109 : decode (xcode 23) 109 = .ok (.invokevirtual 50, 3) := by decide +kernel
theorem d23_112 : decode (xcode 23) 112 = .ok (.aload_n 0, 1) := by decide +kernel
theorem d23_113 : decode (xcode 23) 113 = .ok (.dup, 1) := by decide +kernel
theorem d23_114 : decode (xcode 23) 114 = .ok (.getfield 28, 3) := by decide +kernel
theorem d23_117 : decode (xcode 23) 117 = .ok (.iconst 1, 1) := by decide +kernel
theorem d23_118 : decode (xcode 23) 118 = .ok (.iadd, 1) := by decide +kernel
theorem d23_119 : decode (xcode 23) 119 = .ok (.putfield 28, 3) := by decide +kernel
theorem d23_122 : decode (xcode 23) 122 = .ok (.aload_n 0, 1) := by decide +kernel
theorem d23_123 : decode (xcode 23) 123 = .ok (.getfield 15, 3) := by decide +kernel
theorem d23_126 : decode (xcode 23) 126 = .ok (.iload_n 1, 1) := by decide +kernel
theorem d23_127 : decode (xcode 23) 127 = .ok (.ifCond .eq 16, 3) := by decide +kernel
theorem d23_130 : decode (xcode 23) 130 = .ok (.bipush 100, 2) := by decide +kernel
theorem d23_132 : decode (xcode 23) 132 = .ok (.aload_n 0, 1) := by decide +kernel
theorem d23_133 : decode (xcode 23) 133 = .ok (.getfield 9, 3) := by decide +kernel
theorem d23_136 : decode (xcode 23) 136 = .ok (.getfield 91, 3) := by decide +kernel
theorem d23_139 : decode (xcode 23) 139 = .ok (.iadd, 1) := by decide +kernel
theorem d23_140 : decode (xcode 23) 140 = .ok (.goto 10, 3) := by decide +kernel
theorem d23_143 : decode (xcode 23) 143 = .ok (.aload_n 0, 1) := by decide +kernel
theorem d23_144 : decode (xcode 23) 144 = .ok (.getfield 9, 3) := by decide +kernel
theorem d23_147 : decode (xcode 23) 147 = .ok (.getfield 91, 3) := by decide +kernel
theorem d23_150 : decode (xcode 23) 150 = .ok (.invokevirtual 66, 3) := by decide +kernel
theorem d23_153 : decode (xcode 23) 153 = .ok (.aload_n 0, 1) := by decide +kernel
theorem d23_154 : decode (xcode 23) 154 = .ok (.getfield 9, 3) := by decide +kernel
theorem d23_157 : decode (xcode 23) 157 = .ok (.invokevirtual 54, 3) := by decide +kernel
theorem d23_160 : decode (xcode 23) 160 = .ok (.return_, 1) := by decide +kernel
noncomputable def f_RuleReader_readValue_b150 (t0 : Int32) (t1 : Option Nat) (h : xH) : Option xH :=
  (t1).bind fun i913 =>
  (f_Rule_add i913 t0 h).bind fun h16 =>
  (f_Tape_goOn h16).bind fun h19 =>
  some (h19)
set_option maxHeartbeats 4000000 in
set_option maxRecDepth 100000 in
theorem f_RuleReader_readValue_b150_ok {g : xG} {l : Launch} {d : Nat} {t0 : Int32} {t1 : Option Nat} {h : xH} {o : xH} {R : Option xV} {H' : xH} (hD : 1 ≤ d) (hf : f_RuleReader_readValue_b150 t0 t1 h = some o) (K0 : ∀ (h1 : xH), o = h1 → R = none ∧ H' = h1) : xEv g l d 23 150 [(0, xr 3 (some 0))] [xi t0, xr 2 (t1)] h R H' := by
  unfold f_RuleReader_readValue_b150 at hf
  obtain ⟨i913, ei913, hf⟩ := lk_b hf
  rw [ei913]
  obtain ⟨h16, hc15, hf⟩ := lk_b hf
  refine xe_callv0 (as := [xi t0]) (st := []) (h2 := h16) (d2 := d - 1) d23_150 ky23 ml46 st9 (by decide) cn9 rfl na9 (Nat.le_of_ble_eq_true rfl) (by omega) (f_Rule_add_ok (by omega) hc15) ?_
  refine xs_aload_n d23_153 rfl ?_
  refine xe_getc (j := 0) d23_154 ky23 fl58 fk3_0 rfl ?_
  obtain ⟨h19, hc18, hf⟩ := lk_b hf
  refine xe_callv0 (as := []) (st := []) (h2 := h19) (d2 := d - 1) d23_157 ky23 ml42 st68 (by decide) cn68 rfl na68 (Nat.le_of_ble_eq_true rfl) (by omega) (f_Tape_goOn_ok (by omega) hc18) ?_
  obtain ⟨eR, eH⟩ := K0 _ (Option.some.inj hf).symm
  subst eR; subst eH
  exact xs_vret d23_160 rt23
noncomputable def f_RuleReader_readValue_b112 (v1 : Int32) (h : xH) : Option xH :=
  xlet (xsI h 3 3 0 ((h.1 3 3 0) + (1 : Int32))) fun h11 =>
  if v1 = (0 : Int32) then (
  f_RuleReader_readValue_b150 (h11.1 7 8 0) (h11.2.2.1 3 1 0) h11) else (
  f_RuleReader_readValue_b150 ((100 : Int32) + (h11.1 7 8 0)) (h11.2.2.1 3 1 0) h11)
set_option maxHeartbeats 4000000 in
set_option maxRecDepth 100000 in
theorem f_RuleReader_readValue_b112_ok {g : xG} {l : Launch} {d : Nat} {v1 : Int32} {h : xH} {o : xH} {R : Option xV} {H' : xH} (hD : 1 ≤ d) (hf : f_RuleReader_readValue_b112 v1 h = some o) (K0 : ∀ (h1 : xH), o = h1 → R = none ∧ H' = h1) : xEv g l d 23 112 [(0, xr 3 (some 0)), (1, xi v1)] [] h R H' := by
  unfold f_RuleReader_readValue_b112 at hf
  refine xs_aload_n d23_112 rfl ?_
  refine xs_dup d23_113 rfl ?_
  refine xe_geti d23_114 ky23 fl61 fk3_3 ?_
  refine xs_iconst (v := 1) d23_117 (by decide) ?_
  refine xs_iadd d23_118 ?_
  obtain ⟨h11, eh11, hf⟩ := lk_let hf
  refine xe_puti d23_119 ky23 fl61 fk3_3 ft3_3 eh11 ?_
  refine xs_aload_n d23_122 rfl ?_
  refine xe_getd d23_123 ky23 fl59 fk3_1 ?_
  refine xs_iload_n d23_126 rfl ?_
  rcases lk_if hf with ⟨hc12, hf⟩ | ⟨hc12, hf⟩
  · refine xs_if_eq (tgt := 143) d23_127 (by decide) (fun _ => ?_) (fun hn => absurd hc12 hn)
    refine xs_aload_n d23_143 rfl ?_
    refine xe_getc (j := 0) d23_144 ky23 fl58 fk3_0 rfl ?_
    refine xe_geti d23_147 ky23 fl12 fk7_8 ?_
    refine xs_pick [0] rfl ?_
    exact f_RuleReader_readValue_b150_ok hD hf K0
  · refine xs_if_eq (tgt := 143) d23_127 (by decide) (fun hp => absurd hp hc12) (fun _ => ?_)
    refine xs_bipush (v := 100) d23_130 (by decide) ?_
    refine xs_aload_n d23_132 rfl ?_
    refine xe_getc (j := 0) d23_133 ky23 fl58 fk3_0 rfl ?_
    refine xe_geti d23_136 ky23 fl12 fk7_8 ?_
    refine xs_iadd d23_139 ?_
    refine xs_goto (tgt := 150) d23_140 (by decide) ?_
    refine xs_pick [0] rfl ?_
    exact f_RuleReader_readValue_b150_ok hD hf K0
noncomputable def f_RuleReader_readValue_b95 (v1 : Int32) (h : xH) : Option xH :=
  if (h.1 3 3 0) < (60 : Int32) then (
  f_RuleReader_readValue_b112 v1 h) else (
  (f_Tape_fail (3 : Int32) h).bind fun h22 =>
  f_RuleReader_readValue_b112 v1 h22)
set_option maxHeartbeats 4000000 in
set_option maxRecDepth 100000 in
theorem f_RuleReader_readValue_b95_ok {g : xG} {l : Launch} {d : Nat} {v1 : Int32} {h : xH} {o : xH} {R : Option xV} {H' : xH} (hD : 1 ≤ d) (hf : f_RuleReader_readValue_b95 v1 h = some o) (K0 : ∀ (h1 : xH), o = h1 → R = none ∧ H' = h1) : xEv g l d 23 95 [(0, xr 3 (some 0)), (1, xi v1)] [] h R H' := by
  unfold f_RuleReader_readValue_b95 at hf
  refine xs_aload_n d23_95 rfl ?_
  refine xe_geti d23_96 ky23 fl61 fk3_3 ?_
  refine xs_bipush (v := 60) d23_99 (by decide) ?_
  rcases lk_if hf with ⟨hc10, hf⟩ | ⟨hc10, hf⟩
  · refine xs_icmp_lt (tgt := 112) d23_101 (by decide) (fun _ => ?_) (fun hn => absurd hc10 hn)
    exact f_RuleReader_readValue_b112_ok hD hf K0
  · refine xs_icmp_lt (tgt := 112) d23_101 (by decide) (fun hp => absurd hp hc10) (fun _ => ?_)
    refine xs_aload_n d23_104 rfl ?_
    refine xe_getc (j := 0) d23_105 ky23 fl58 fk3_0 rfl ?_
    refine xs_iconst (v := 3) d23_108 (by decide) ?_
    obtain ⟨h22, hc21, hf⟩ := lk_b hf
    refine xe_callv0 (as := [xi (3 : Int32)]) (st := []) (h2 := h22) (d2 := d - 1) d23_109 ky23 ml41 st70 (by decide) cn70 rfl na70 (Nat.le_of_ble_eq_true rfl) (by omega) (f_Tape_fail_ok (by omega) hc21) ?_
    exact f_RuleReader_readValue_b112_ok hD hf K0
noncomputable def f_RuleReader_readValue_b72 (v1 : Int32) (h : xH) : Option xH :=
  if v1 = (0 : Int32) then (
  f_RuleReader_readValue_b95 v1 h) else (
  if (h.1 7 8 0) = (-1 : Int32) then (
  (f_Tape_fail (1 : Int32) h).bind fun h26 =>
  f_RuleReader_readValue_b95 v1 h26) else (
  f_RuleReader_readValue_b95 v1 h))
set_option maxHeartbeats 4000000 in
set_option maxRecDepth 100000 in
theorem f_RuleReader_readValue_b72_ok {g : xG} {l : Launch} {d : Nat} {v1 : Int32} {h : xH} {o : xH} {R : Option xV} {H' : xH} (hD : 1 ≤ d) (hf : f_RuleReader_readValue_b72 v1 h = some o) (K0 : ∀ (h1 : xH), o = h1 → R = none ∧ H' = h1) : xEv g l d 23 72 [(0, xr 3 (some 0)), (1, xi v1)] [] h R H' := by
  unfold f_RuleReader_readValue_b72 at hf
  refine xs_iload_n d23_72 rfl ?_
  rcases lk_if hf with ⟨hc9, hf⟩ | ⟨hc9, hf⟩
  · refine xs_if_eq (tgt := 95) d23_73 (by decide) (fun _ => ?_) (fun hn => absurd hc9 hn)
    exact f_RuleReader_readValue_b95_ok hD hf K0
  · refine xs_if_eq (tgt := 95) d23_73 (by decide) (fun hp => absurd hp hc9) (fun _ => ?_)
    refine xs_aload_n d23_76 rfl ?_
    refine xe_getc (j := 0) d23_77 ky23 fl58 fk3_0 rfl ?_
    refine xe_geti d23_80 ky23 fl12 fk7_8 ?_
    refine xs_iconst (v := -1) d23_83 (by decide) ?_
    rcases lk_if hf with ⟨hc23, hf⟩ | ⟨hc23, hf⟩
    · refine xs_icmp_ne (tgt := 95) d23_84 (by decide) (fun _ => ?_) (fun hn => absurd hc23 hn)
      refine xs_aload_n d23_87 rfl ?_
      refine xe_getc (j := 0) d23_88 ky23 fl58 fk3_0 rfl ?_
      refine xs_iconst (v := 1) d23_91 (by decide) ?_
      obtain ⟨h26, hc25, hf⟩ := lk_b hf
      refine xe_callv0 (as := [xi (1 : Int32)]) (st := []) (h2 := h26) (d2 := d - 1) d23_92 ky23 ml41 st70 (by decide) cn70 rfl na70 (Nat.le_of_ble_eq_true rfl) (by omega) (f_Tape_fail_ok (by omega) hc25) ?_
      exact f_RuleReader_readValue_b95_ok hD hf K0
    · refine xs_icmp_ne (tgt := 95) d23_84 (by decide) (fun hp => absurd hp hc23) (fun _ => ?_)
      exact f_RuleReader_readValue_b95_ok hD hf K0
noncomputable def f_RuleReader_readValue_b55 (v1 : Int32) (t0 : Int32) (h : xH) : Option xH :=
  if v1 = (0 : Int32) then (
  if t0 = (0 : Int32) then (
  (f_Tape_fail (0 : Int32) h).bind fun h8 =>
  f_RuleReader_readValue_b72 v1 h8) else (
  f_RuleReader_readValue_b72 v1 h)) else (
  f_RuleReader_readValue_b72 v1 h)
set_option maxHeartbeats 4000000 in
set_option maxRecDepth 100000 in
theorem f_RuleReader_readValue_b55_ok {g : xG} {l : Launch} {d : Nat} {v1 : Int32} {t0 : Int32} {h : xH} {o : xH} {R : Option xV} {H' : xH} (hD : 1 ≤ d) (hf : f_RuleReader_readValue_b55 v1 t0 h = some o) (K0 : ∀ (h1 : xH), o = h1 → R = none ∧ H' = h1) : xEv g l d 23 55 [(0, xr 3 (some 0)), (1, xi v1)] [xi t0] h R H' := by
  unfold f_RuleReader_readValue_b55 at hf
  refine xe_istore_n (v := t0) (ls2 := [(0, xr 3 (some 0)), (1, xi v1), (2, xi t0)]) d23_55 mx23 (by decide) rfl rfl ?_
  refine xs_iload_n d23_56 rfl ?_
  rcases lk_if hf with ⟨hc4, hf⟩ | ⟨hc4, hf⟩
  · refine xs_if_ne (tgt := 72) d23_57 (by decide) (fun _ => ?_) (fun hn => absurd hc4 hn)
    refine xs_iload_n d23_60 rfl ?_
    rcases lk_if hf with ⟨hc5, hf⟩ | ⟨hc5, hf⟩
    · refine xs_if_ne (tgt := 72) d23_61 (by decide) (fun _ => ?_) (fun hn => absurd hc5 hn)
      refine xs_aload_n d23_64 rfl ?_
      refine xe_getc (j := 0) d23_65 ky23 fl58 fk3_0 rfl ?_
      refine xs_iconst (v := 0) d23_68 (by decide) ?_
      obtain ⟨h8, hc7, hf⟩ := lk_b hf
      refine xe_callv0 (as := [xi (0 : Int32)]) (st := []) (h2 := h8) (d2 := d - 1) d23_69 ky23 ml41 st70 (by decide) cn70 rfl na70 (Nat.le_of_ble_eq_true rfl) (by omega) (f_Tape_fail_ok (by omega) hc7) ?_
      refine xs_pick [0, 1] rfl ?_
      exact f_RuleReader_readValue_b72_ok hD hf K0
    · refine xs_if_ne (tgt := 72) d23_61 (by decide) (fun hp => absurd hp hc5) (fun _ => ?_)
      refine xs_pick [0, 1] rfl ?_
      exact f_RuleReader_readValue_b72_ok hD hf K0
  · refine xs_if_ne (tgt := 72) d23_57 (by decide) (fun hp => absurd hp hc4) (fun _ => ?_)
    refine xs_pick [0, 1] rfl ?_
    exact f_RuleReader_readValue_b72_ok hD hf K0
noncomputable def f_RuleReader_readValue_b54 (v1 : Int32) (h : xH) : Option xH :=
  f_RuleReader_readValue_b55 v1 (0 : Int32) h
set_option maxHeartbeats 4000000 in
set_option maxRecDepth 100000 in
theorem f_RuleReader_readValue_b54_ok {g : xG} {l : Launch} {d : Nat} {v1 : Int32} {h : xH} {o : xH} {R : Option xV} {H' : xH} (hD : 1 ≤ d) (hf : f_RuleReader_readValue_b54 v1 h = some o) (K0 : ∀ (h1 : xH), o = h1 → R = none ∧ H' = h1) : xEv g l d 23 54 [(0, xr 3 (some 0)), (1, xi v1)] [] h R H' := by
  unfold f_RuleReader_readValue_b54 at hf
  refine xs_iconst (v := 0) d23_54 (by decide) ?_
  exact f_RuleReader_readValue_b55_ok hD hf K0
noncomputable def f_RuleReader_readValue_b16 (t0 : Int32) (h : xH) : Option xH :=
  if (h.1 7 7 0) = (1 : Int32) then (
  if (h.1 7 8 0) < (0 : Int32) then (
  f_RuleReader_readValue_b54 t0 h) else (
  if (12 : Int32) ≤ (h.1 7 8 0) then (
  f_RuleReader_readValue_b54 t0 h) else (
  f_RuleReader_readValue_b55 t0 (1 : Int32) h))) else (
  f_RuleReader_readValue_b54 t0 h)
set_option maxHeartbeats 4000000 in
set_option maxRecDepth 100000 in
theorem f_RuleReader_readValue_b16_ok {g : xG} {l : Launch} {d : Nat} {t0 : Int32} {h : xH} {o : xH} {R : Option xV} {H' : xH} (hD : 1 ≤ d) (hf : f_RuleReader_readValue_b16 t0 h = some o) (K0 : ∀ (h1 : xH), o = h1 → R = none ∧ H' = h1) : xEv g l d 23 16 [(0, xr 3 (some 0))] [xi t0] h R H' := by
  unfold f_RuleReader_readValue_b16 at hf
  refine xe_istore_n (v := t0) (ls2 := [(0, xr 3 (some 0)), (1, xi t0)]) d23_16 mx23 (by decide) rfl rfl ?_
  refine xs_aload_n d23_17 rfl ?_
  refine xe_getc (j := 0) d23_18 ky23 fl58 fk3_0 rfl ?_
  refine xe_geti d23_21 ky23 fl9 fk7_7 ?_
  refine xs_iconst (v := 1) d23_24 (by decide) ?_
  rcases lk_if hf with ⟨hc2, hf⟩ | ⟨hc2, hf⟩
  · refine xs_icmp_ne (tgt := 54) d23_25 (by decide) (fun _ => ?_) (fun hn => absurd hc2 hn)
    refine xs_aload_n d23_28 rfl ?_
    refine xe_getc (j := 0) d23_29 ky23 fl58 fk3_0 rfl ?_
    refine xe_geti d23_32 ky23 fl12 fk7_8 ?_
    rcases lk_if hf with ⟨hc3, hf⟩ | ⟨hc3, hf⟩
    · refine xs_if_lt (tgt := 54) d23_35 (by decide) (fun _ => ?_) (fun hn => absurd hc3 hn)
      exact f_RuleReader_readValue_b54_ok hD hf K0
    · refine xs_if_lt (tgt := 54) d23_35 (by decide) (fun hp => absurd hp hc3) (fun _ => ?_)
      refine xs_aload_n d23_38 rfl ?_
      refine xe_getc (j := 0) d23_39 ky23 fl58 fk3_0 rfl ?_
      refine xe_geti d23_42 ky23 fl12 fk7_8 ?_
      refine xs_bipush (v := 12) d23_45 (by decide) ?_
      rcases lk_if hf with ⟨hc27, hf⟩ | ⟨hc27, hf⟩
      · refine xs_icmp_ge (tgt := 54) d23_47 (by decide) (fun _ => ?_) (fun hn => absurd hc27 hn)
        exact f_RuleReader_readValue_b54_ok hD hf K0
      · refine xs_icmp_ge (tgt := 54) d23_47 (by decide) (fun hp => absurd hp hc27) (fun _ => ?_)
        refine xs_iconst (v := 1) d23_50 (by decide) ?_
        refine xs_goto (tgt := 55) d23_51 (by decide) ?_
        exact f_RuleReader_readValue_b55_ok hD hf K0
  · refine xs_icmp_ne (tgt := 54) d23_25 (by decide) (fun hp => absurd hp hc2) (fun _ => ?_)
    exact f_RuleReader_readValue_b54_ok hD hf K0
noncomputable def f_RuleReader_readValue_e (h : xH) : Option xH :=
  if (h.1 7 7 0) = (2 : Int32) then (
  f_RuleReader_readValue_b16 (1 : Int32) h) else (
  f_RuleReader_readValue_b16 (0 : Int32) h)
set_option maxHeartbeats 4000000 in
set_option maxRecDepth 100000 in
theorem f_RuleReader_readValue_e_ok {g : xG} {l : Launch} {d : Nat} {h : xH} {o : xH} {R : Option xV} {H' : xH} (hD : 1 ≤ d) (hf : f_RuleReader_readValue_e h = some o) (K0 : ∀ (h1 : xH), o = h1 → R = none ∧ H' = h1) : xEv g l d 23 0 [(0, xr 3 (some 0))] [] h R H' := by
  unfold f_RuleReader_readValue_e at hf
  refine xs_aload_n d23_0 rfl ?_
  refine xe_getc (j := 0) d23_1 ky23 fl58 fk3_0 rfl ?_
  refine xe_geti d23_4 ky23 fl9 fk7_7 ?_
  refine xs_iconst (v := 2) d23_7 (by decide) ?_
  rcases lk_if hf with ⟨hc1, hf⟩ | ⟨hc1, hf⟩
  · refine xs_icmp_ne (tgt := 15) d23_8 (by decide) (fun _ => ?_) (fun hn => absurd hc1 hn)
    refine xs_iconst (v := 1) d23_11 (by decide) ?_
    refine xs_goto (tgt := 16) d23_12 (by decide) ?_
    exact f_RuleReader_readValue_b16_ok hD hf K0
  · refine xs_icmp_ne (tgt := 15) d23_8 (by decide) (fun hp => absurd hp hc1) (fun _ => ?_)
    refine xs_iconst (v := 0) d23_15 (by decide) ?_
    exact f_RuleReader_readValue_b16_ok hD hf K0
noncomputable def f_RuleReader_readValue (h : xH) : Option xH := f_RuleReader_readValue_e h
theorem f_RuleReader_readValue_ok {g : xG} {l : Launch} {d : Nat} {h : xH} {h1 : xH} (hD : 1 ≤ d) (hf : f_RuleReader_readValue h = some h1) : xC g l d 23 [xr 3 (some 0)] h none h1 :=
  xC_of2 (by decide) mx23 (Nat.le_of_ble_eq_true rfl) (f_RuleReader_readValue_e_ok hD hf (fun _ e => ⟨rfl, e⟩))
theorem d69_0 : decode (xcode 69) 0 = .ok (.aload_n 0, 1) := by decide +kernel
theorem d69_1 : decode (xcode 69) 1 = .ok (.getfield 33, 3) := by decide +kernel
theorem d69_4 : decode (xcode 69) 4 = .ok (.ifCond .ne 7, 3) := by decide +kernel
theorem d69_7 : decode (xcode 69) 7 = .ok (.iconst 1, 1) := by decide +kernel
theorem d69_8 : decode (xcode 69) 8 = .ok (.goto 4, 3) := by decide +kernel
theorem d69_11 : decode (xcode 69) 11 = .ok (.iconst 0, 1) := by decide +kernel
theorem d69_12 : decode (xcode 69) 12 = .ok (.ireturn, 1) := by decide +kernel
noncomputable def f_Tape_isWell_e (h : xH) : Option Int32 :=
  if (h.1 7 9 0) = (0 : Int32) then (
  some ((1 : Int32))) else (
  some ((0 : Int32)))
set_option maxHeartbeats 4000000 in
set_option maxRecDepth 100000 in
theorem f_Tape_isWell_e_ok {g : xG} {l : Launch} {d : Nat} {h : xH} {o : Int32} {R : Option xV} (hD : 0 ≤ d) (hf : f_Tape_isWell_e h = some o) (K0 : ∀ (a : Int32), o = a → R = some (xi a)) : xEv g l d 69 0 [(0, xr 7 (some 0))] [] h R h := by
  unfold f_Tape_isWell_e at hf
  refine xs_aload_n d69_0 rfl ?_
  refine xe_geti d69_1 ky69 fl16 fk7_9 ?_
  rcases lk_if hf with ⟨hc1, hf⟩ | ⟨hc1, hf⟩
  · refine xs_if_ne (tgt := 11) d69_4 (by decide) (fun _ => ?_) (fun hn => absurd hc1 hn)
    refine xs_iconst (v := 1) d69_7 (by decide) ?_
    refine xs_goto (tgt := 12) d69_8 (by decide) ?_
    obtain eR := K0 _ (Option.some.inj hf).symm
    subst eR
    exact xe_zret d69_12 (Or.inr rfl) rt69
  · refine xs_if_ne (tgt := 11) d69_4 (by decide) (fun hp => absurd hp hc1) (fun _ => ?_)
    refine xs_iconst (v := 0) d69_11 (by decide) ?_
    obtain eR := K0 _ (Option.some.inj hf).symm
    subst eR
    exact xe_zret d69_12 (Or.inl rfl) rt69
noncomputable def f_Tape_isWell (h : xH) : Option Int32 := f_Tape_isWell_e h
theorem f_Tape_isWell_ok {g : xG} {l : Launch} {d : Nat} {h : xH} {r : Int32} (hD : 0 ≤ d) (hf : f_Tape_isWell h = some r) : xC g l d 69 [xr 7 (some 0)] h (some (xi r)) h :=
  xC_of2 (by decide) mx69 (Nat.le_of_ble_eq_true rfl) (f_Tape_isWell_e_ok hD hf (fun _ e => by rw [e]))
theorem d71_0 : decode (xcode 71) 0 = .ok (.aload_n 0, 1) := by decide +kernel
theorem d71_1 : decode (xcode 71) 1 = .ok (.getfield 84, 3) := by decide +kernel
theorem d71_4 : decode (xcode 71) 4 = .ok (.iconst 3, 1) := by decide +kernel
theorem d71_5 : decode (xcode 71) 5 = .ok (.if_icmp .ne 15, 3) := by decide +kernel
theorem d71_8 : decode (xcode 71) 8 = .ok (.aload_n 0, 1) := by decide +kernel
theorem d71_9 : decode (xcode 71) 9 = .ok (.getfield 87, 3) := by decide +kernel
theorem d71_12 : decode (xcode 71) 12 = .ok (.iload_n 1, 1) := by decide +kernel
theorem d71_13 : decode (xcode 71) 13 = .ok (.if_icmp .ne 7, 3) := by decide +kernel
theorem d71_16 : decode (xcode 71) 16 = .ok (.iconst 1, 1) := by decide +kernel
theorem d71_17 : decode (xcode 71) 17 = .ok (.goto 4, 3) := by decide +kernel
theorem d71_20 : decode (xcode 71) 20 = .ok (.iconst 0, 1) := by decide +kernel
theorem d71_21 : decode (xcode 71) 21 = .ok (.ireturn, 1) := by decide +kernel
noncomputable def f_Tape_isSign_e (v1 : Int32) (h : xH) : Option Int32 :=
  if (h.1 7 7 0) = (3 : Int32) then (
  if (h.1 7 8 0) = v1 then (
  some ((1 : Int32))) else (
  some ((0 : Int32)))) else (
  some ((0 : Int32)))
set_option maxHeartbeats 4000000 in
set_option maxRecDepth 100000 in
theorem f_Tape_isSign_e_ok {g : xG} {l : Launch} {d : Nat} {v1 : Int32} {h : xH} {o : Int32} {R : Option xV} (hD : 0 ≤ d) (hf : f_Tape_isSign_e v1 h = some o) (K0 : ∀ (a : Int32), o = a → R = some (xi a)) : xEv g l d 71 0 [(0, xr 7 (some 0)), (1, xi v1)] [] h R h := by
  unfold f_Tape_isSign_e at hf
  refine xs_aload_n d71_0 rfl ?_
  refine xe_geti d71_1 ky71 fl10 fk7_7 ?_
  refine xs_iconst (v := 3) d71_4 (by decide) ?_
  rcases lk_if hf with ⟨hc1, hf⟩ | ⟨hc1, hf⟩
  · refine xs_icmp_ne (tgt := 20) d71_5 (by decide) (fun _ => ?_) (fun hn => absurd hc1 hn)
    refine xs_aload_n d71_8 rfl ?_
    refine xe_geti d71_9 ky71 fl13 fk7_8 ?_
    refine xs_iload_n d71_12 rfl ?_
    rcases lk_if hf with ⟨hc2, hf⟩ | ⟨hc2, hf⟩
    · refine xs_icmp_ne (tgt := 20) d71_13 (by decide) (fun _ => ?_) (fun hn => absurd hc2 hn)
      refine xs_iconst (v := 1) d71_16 (by decide) ?_
      refine xs_goto (tgt := 21) d71_17 (by decide) ?_
      obtain eR := K0 _ (Option.some.inj hf).symm
      subst eR
      exact xe_zret d71_21 (Or.inr rfl) rt71
    · refine xs_icmp_ne (tgt := 20) d71_13 (by decide) (fun hp => absurd hp hc2) (fun _ => ?_)
      refine xs_iconst (v := 0) d71_20 (by decide) ?_
      obtain eR := K0 _ (Option.some.inj hf).symm
      subst eR
      exact xe_zret d71_21 (Or.inl rfl) rt71
  · refine xs_icmp_ne (tgt := 20) d71_5 (by decide) (fun hp => absurd hp hc1) (fun _ => ?_)
    refine xs_iconst (v := 0) d71_20 (by decide) ?_
    obtain eR := K0 _ (Option.some.inj hf).symm
    subst eR
    exact xe_zret d71_21 (Or.inl rfl) rt71
noncomputable def f_Tape_isSign (v1 : Int32) (h : xH) : Option Int32 := f_Tape_isSign_e v1 h
theorem f_Tape_isSign_ok {g : xG} {l : Launch} {d : Nat} {v1 : Int32} {h : xH} {r : Int32} (hD : 0 ≤ d) (hf : f_Tape_isSign v1 h = some r) : xC g l d 71 [xr 7 (some 0), xi v1] h (some (xi r)) h :=
  xC_of2 (by decide) mx71 (Nat.le_of_ble_eq_true rfl) (f_Tape_isSign_e_ok hD hf (fun _ e => by rw [e]))
theorem d22_0 : decode (xcode 22) 0 = .ok (.aload_n 0, 1) := by decide +kernel
theorem d22_1 : decode (xcode 22) 1 = .ok (.invokevirtual 97, 3) := by decide +kernel
theorem d22_4 : decode (xcode 22) 4 = .ok (.iconst 0, 1) := by decide +kernel
theorem d22_5 : decode (xcode 22) 5 = .ok (.istore_n 1, 1) := by decide +kernel
theorem d22_6 : decode (xcode 22) 6 = .ok (.iload_n 1, 1) := by decide +kernel
theorem d22_7 : decode (xcode 22) 7 = .ok (.sipush 400, 3) := by decide +kernel
theorem d22_10 : decode (xcode 22) 10 = .ok (.if_icmp .ge 97, 3) := by decide +kernel
theorem d22_13 : decode (xcode 22) 13 = .ok (.aload_n 0, 1) := by decide +kernel
theorem d22_14 : decode (xcode 22) 14 = .ok (.getfield 9, 3) := by decide +kernel
theorem d22_17 : decode (xcode 22) 17 = .ok (.invokevirtual 60, 3) := by decide +kernel
theorem d22_20 : decode (xcode 22) 20 = .ok (.ifCond .eq 87, 3) := by decide +kernel
theorem d22_23 : decode (xcode 22) 23 = .ok (.aload_n 0, 1) := by decide +kernel
theorem d22_24 : decode (xcode 22) 24 = .ok (.getfield 9, 3) := by decide +kernel
theorem d22_27 : decode (xcode 22) 27 = .ok (.bipush 42, 2) := by decide +kernel
theorem d22_29 : decode (xcode 22) 29 = .ok (.invokevirtual 75, 3) := by decide +kernel
theorem d22_32 : decode (xcode 22) 32 = .ok (.ifCond .eq 8, 3) := by decide +kernel
theorem d22_35 : decode (xcode 22) 35 = .ok (.bipush 14, 2) := by decide +kernel
theorem d22_37 : decode (xcode 22) 37 = .ok (.goto 38, 3) := by decide +kernel
theorem d22_40 : decode (xcode 22) 40 = .ok (.aload_n 0, 1) := by decide +kernel
theorem d22_41 : decode (xcode 22) 41 = .ok (.getfield 9, 3) := by decide +kernel
theorem d22_44 : decode (xcode 22) 44 = .ok (.bipush 47, 2) := by decide +kernel
theorem d22_46 : decode (xcode 22) 46 = .ok (.invokevirtual 75, 3) := by decide +kernel
theorem d22_49 : decode (xcode 22) 49 = .ok (.ifCond .eq 8, 3) := by decide +kernel
theorem d22_52 : decode (xcode 22) 52 = .ok (.bipush 15, 2) := by decide +kernel
theorem d22_54 : decode (xcode 22) 54 = .ok (.goto 21, 3) := by decide +kernel
theorem d22_57 : decode (xcode 22) 57 = .ok (.aload_n 0, 1) := by decide +kernel
theorem d22_58 : decode (xcode 22) 58 = .ok (.getfield 9, 3) := by decide +kernel
theorem d22_61 : decode (xcode 22) 61 = .ok (.bipush 37, 2) := by decide +kernel
theorem d22_63 : decode (xcode 22) 63 = .ok (.invokevirtual 75, 3) := by decide +kernel
theorem d22_66 : decode (xcode 22) 66 = .ok (.ifCond .eq 8, 3) := by decide +kernel
theorem d22_69 : decode (xcode 22) 69 = .ok (.bipush 16, 2) := by decide +kernel
theorem d22_71 : decode (xcode 22) 71 = .ok (.goto 4, 3) := by decide +kernel
theorem d22_74 : decode (xcode 22) 74 = .ok (.iconst (-1), 1) := by decide +kernel
theorem d22_75 : decode (xcode 22) 75 = .ok (.istore_n 2, 1) := by decide +kernel
theorem d22_76 : decode (xcode 22) 76 = .ok (.iload_n 2, 1) := by decide +kernel
theorem d22_77 : decode (xcode 22) 77 = .ok (.iconst (-1), 1) := by decide +kernel
theorem d22_78 : decode (xcode 22) 78 = .ok (.if_icmp .ne 4, 3) := by decide +kernel
theorem d22_81 : decode (xcode 22) 81 = .ok (.return_, 1) := by decide +kernel
theorem d22_82 : decode (xcode 22) 82 = .ok (.aload_n 0, 1) := by decide +kernel
theorem d22_83 : decode (xcode 22) 83 = .ok (.getfield 9, 3) := by decide +kernel
theorem d22_86 : decode (xcode 22) 86 = .ok (.invokevirtual 54, 3) := by decide +kernel
theorem d22_89 : decode (xcode 22) 89 = .ok (.aload_n 0, 1) := by decide +kernel
theorem d22_90 : decode (xcode 22) 90 = .ok (.invokevirtual 97, 3) := by decide +kernel
theorem d22_93 : decode (xcode 22) 93 = .ok (.aload_n 0, 1) := by decide +kernel
theorem d22_94 : decode (xcode 22) 94 = .ok (.getfield 15, 3) := by decide +kernel
theorem d22_97 : decode (xcode 22) 97 = .ok (.iload_n 2, 1) := by decide +kernel
theorem d22_98 : decode (xcode 22) 98 = .ok (.invokevirtual 66, 3) := by decide +kernel
theorem d22_101 : decode (xcode 22) 101 = .ok (.iinc 1 1, 3) := by decide +kernel
theorem d22_104 : decode (xcode 22) 104 = .ok (.goto (-98), 3) := by decide +kernel
theorem d22_107 : decode (xcode 22) 107 = .ok (.return_, 1) := by decide +kernel
noncomputable def f_RuleReader_readTerm_b75 (v1 : Int32) (t0 : Int32) (h : xH) : Option ((Int32 × xH) ⊕ xH) :=
  if t0 = (-1 : Int32) then (
  some (Sum.inr (h))) else (
  (f_Tape_goOn h).bind fun h20 =>
  (f_RuleReader_readValue h20).bind fun h23 =>
  (h23.2.2.1 3 1 0).bind fun i924 =>
  (f_Rule_add i924 t0 h23).bind fun h27 =>
  xlet (v1 + (1 : Int32)) fun v1_28 =>
  some (Sum.inl (v1_28, h27)))
set_option maxHeartbeats 4000000 in
set_option maxRecDepth 100000 in
theorem f_RuleReader_readTerm_b75_ok {g : xG} {l : Launch} {d : Nat} {v1 : Int32} {t0 : Int32} {h : xH} {o : ((Int32 × xH) ⊕ xH)} {R : Option xV} {H' : xH} (hD : 2 ≤ d) (hf : f_RuleReader_readTerm_b75 v1 t0 h = some o) (K1 : ∀ (w1 : Int32) (h1 : xH), o = Sum.inl (w1, h1) → xEv g l d 22 6 [(0, xr 3 (some 0)), (1, xi w1)] [] h1 R H') (K0 : ∀ (h1 : xH), o = Sum.inr (h1) → R = none ∧ H' = h1) : xEv g l d 22 75 [(0, xr 3 (some 0)), (1, xi v1)] [xi t0] h R H' := by
  unfold f_RuleReader_readTerm_b75 at hf
  refine xe_istore_n (v := t0) (ls2 := [(0, xr 3 (some 0)), (1, xi v1), (2, xi t0)]) d22_75 mx22 (by decide) rfl rfl ?_
  refine xs_iload_n d22_76 rfl ?_
  refine xs_iconst (v := -1) d22_77 (by decide) ?_
  rcases lk_if hf with ⟨hc17, hf⟩ | ⟨hc17, hf⟩
  · refine xs_icmp_ne (tgt := 82) d22_78 (by decide) (fun _ => ?_) (fun hn => absurd hc17 hn)
    obtain ⟨eR, eH⟩ := K0 _ (Option.some.inj hf).symm
    subst eR; subst eH
    exact xs_vret d22_81 rt22
  · refine xs_icmp_ne (tgt := 82) d22_78 (by decide) (fun hp => absurd hp hc17) (fun _ => ?_)
    refine xs_aload_n d22_82 rfl ?_
    refine xe_getc (j := 0) d22_83 ky22 fl58 fk3_0 rfl ?_
    obtain ⟨h20, hc19, hf⟩ := lk_b hf
    refine xe_callv0 (as := []) (st := []) (h2 := h20) (d2 := d - 1) d22_86 ky22 ml42 st68 (by decide) cn68 rfl na68 (Nat.le_of_ble_eq_true rfl) (by omega) (f_Tape_goOn_ok (by omega) hc19) ?_
    refine xs_aload_n d22_89 rfl ?_
    obtain ⟨h23, hc22, hf⟩ := lk_b hf
    refine xe_callv0 (as := []) (st := []) (h2 := h23) (d2 := d - 1) d22_90 ky22 ml45 st23 (by decide) cn23 rfl na23 (Nat.le_of_ble_eq_true rfl) (by omega) (f_RuleReader_readValue_ok (by omega) hc22) ?_
    refine xs_aload_n d22_93 rfl ?_
    refine xe_getd d22_94 ky22 fl59 fk3_1 ?_
    refine xs_iload_n d22_97 rfl ?_
    obtain ⟨i924, ei924, hf⟩ := lk_b hf
    rw [ei924]
    obtain ⟨h27, hc26, hf⟩ := lk_b hf
    refine xe_callv0 (as := [xi t0]) (st := []) (h2 := h27) (d2 := d - 1) d22_98 ky22 ml46 st9 (by decide) cn9 rfl na9 (Nat.le_of_ble_eq_true rfl) (by omega) (f_Rule_add_ok (by omega) hc26) ?_
    obtain ⟨v1_28, ev1_28, hf⟩ := lk_let hf
    refine xe_iinc (v := v1_28) (b := 1) (ls2 := [(0, xr 3 (some 0)), (1, xi v1_28), (2, xi t0)]) d22_101 mx22 (by decide) rfl (by decide) ev1_28 rfl ?_
    refine xs_goto (tgt := 6) d22_104 (by decide) ?_
    refine xs_pick [0, 1] rfl ?_
    exact K1 _ _ (Option.some.inj hf).symm
noncomputable def f_RuleReader_readTerm_s6 (v1 : Int32) (h : xH) : Option ((Int32 × xH) ⊕ xH) :=
  if (400 : Int32) ≤ v1 then (
  some (Sum.inr (h))) else (
  (f_Tape_isWell h).bind fun r5 =>
  if r5 = (0 : Int32) then (
  some (Sum.inr (h))) else (
  (f_Tape_isSign (42 : Int32) h).bind fun r8 =>
  if r8 = (0 : Int32) then (
  (f_Tape_isSign (47 : Int32) h).bind fun r11 =>
  if r11 = (0 : Int32) then (
  (f_Tape_isSign (37 : Int32) h).bind fun r14 =>
  if r14 = (0 : Int32) then (
  f_RuleReader_readTerm_b75 v1 (-1 : Int32) h) else (
  f_RuleReader_readTerm_b75 v1 (16 : Int32) h)) else (
  f_RuleReader_readTerm_b75 v1 (15 : Int32) h)) else (
  f_RuleReader_readTerm_b75 v1 (14 : Int32) h)))
set_option maxHeartbeats 4000000 in
set_option maxRecDepth 100000 in
theorem f_RuleReader_readTerm_s6_ok {g : xG} {l : Launch} {d : Nat} {v1 : Int32} {h : xH} {o : ((Int32 × xH) ⊕ xH)} {R : Option xV} {H' : xH} (hD : 2 ≤ d) (hf : f_RuleReader_readTerm_s6 v1 h = some o) (K1 : ∀ (w1 : Int32) (h1 : xH), o = Sum.inl (w1, h1) → xEv g l d 22 6 [(0, xr 3 (some 0)), (1, xi w1)] [] h1 R H') (K0 : ∀ (h1 : xH), o = Sum.inr (h1) → R = none ∧ H' = h1) : xEv g l d 22 6 [(0, xr 3 (some 0)), (1, xi v1)] [] h R H' := by
  unfold f_RuleReader_readTerm_s6 at hf
  refine xs_iload_n d22_6 rfl ?_
  refine xs_sipush (v := 400) d22_7 (by decide) ?_
  rcases lk_if hf with ⟨hc4, hf⟩ | ⟨hc4, hf⟩
  · refine xs_icmp_ge (tgt := 107) d22_10 (by decide) (fun _ => ?_) (fun hn => absurd hc4 hn)
    obtain ⟨eR, eH⟩ := K0 _ (Option.some.inj hf).symm
    subst eR; subst eH
    exact xs_vret d22_107 rt22
  · refine xs_icmp_ge (tgt := 107) d22_10 (by decide) (fun hp => absurd hp hc4) (fun _ => ?_)
    refine xs_aload_n d22_13 rfl ?_
    refine xe_getc (j := 0) d22_14 ky22 fl58 fk3_0 rfl ?_
    obtain ⟨r5, hc6, hf⟩ := lk_b hf
    refine xe_callv1 (as := []) (st := []) (h2 := h) (d2 := d - 1) d22_17 ky22 ml47 st69 (by decide) cn69 rfl na69 (Nat.le_of_ble_eq_true rfl) (by omega) (f_Tape_isWell_ok (by omega) hc6) ?_
    rcases lk_if hf with ⟨hc7, hf⟩ | ⟨hc7, hf⟩
    · refine xs_if_eq (tgt := 107) d22_20 (by decide) (fun _ => ?_) (fun hn => absurd hc7 hn)
      obtain ⟨eR, eH⟩ := K0 _ (Option.some.inj hf).symm
      subst eR; subst eH
      exact xs_vret d22_107 rt22
    · refine xs_if_eq (tgt := 107) d22_20 (by decide) (fun hp => absurd hp hc7) (fun _ => ?_)
      refine xs_aload_n d22_23 rfl ?_
      refine xe_getc (j := 0) d22_24 ky22 fl58 fk3_0 rfl ?_
      refine xs_bipush (v := 42) d22_27 (by decide) ?_
      obtain ⟨r8, hc9, hf⟩ := lk_b hf
      refine xe_callv1 (as := [xi (42 : Int32)]) (st := []) (h2 := h) (d2 := d - 1) d22_29 ky22 ml48 st71 (by decide) cn71 rfl na71 (Nat.le_of_ble_eq_true rfl) (by omega) (f_Tape_isSign_ok (by omega) hc9) ?_
      rcases lk_if hf with ⟨hc10, hf⟩ | ⟨hc10, hf⟩
      · refine xs_if_eq (tgt := 40) d22_32 (by decide) (fun _ => ?_) (fun hn => absurd hc10 hn)
        refine xs_aload_n d22_40 rfl ?_
        refine xe_getc (j := 0) d22_41 ky22 fl58 fk3_0 rfl ?_
        refine xs_bipush (v := 47) d22_44 (by decide) ?_
        obtain ⟨r11, hc12, hf⟩ := lk_b hf
        refine xe_callv1 (as := [xi (47 : Int32)]) (st := []) (h2 := h) (d2 := d - 1) d22_46 ky22 ml48 st71 (by decide) cn71 rfl na71 (Nat.le_of_ble_eq_true rfl) (by omega) (f_Tape_isSign_ok (by omega) hc12) ?_
        rcases lk_if hf with ⟨hc13, hf⟩ | ⟨hc13, hf⟩
        · refine xs_if_eq (tgt := 57) d22_49 (by decide) (fun _ => ?_) (fun hn => absurd hc13 hn)
          refine xs_aload_n d22_57 rfl ?_
          refine xe_getc (j := 0) d22_58 ky22 fl58 fk3_0 rfl ?_
          refine xs_bipush (v := 37) d22_61 (by decide) ?_
          obtain ⟨r14, hc15, hf⟩ := lk_b hf
          refine xe_callv1 (as := [xi (37 : Int32)]) (st := []) (h2 := h) (d2 := d - 1) d22_63 ky22 ml48 st71 (by decide) cn71 rfl na71 (Nat.le_of_ble_eq_true rfl) (by omega) (f_Tape_isSign_ok (by omega) hc15) ?_
          rcases lk_if hf with ⟨hc16, hf⟩ | ⟨hc16, hf⟩
          · refine xs_if_eq (tgt := 74) d22_66 (by decide) (fun _ => ?_) (fun hn => absurd hc16 hn)
            refine xs_iconst (v := -1) d22_74 (by decide) ?_
            exact f_RuleReader_readTerm_b75_ok hD hf K1 K0
          · refine xs_if_eq (tgt := 74) d22_66 (by decide) (fun hp => absurd hp hc16) (fun _ => ?_)
            refine xs_bipush (v := 16) d22_69 (by decide) ?_
            refine xs_goto (tgt := 75) d22_71 (by decide) ?_
            exact f_RuleReader_readTerm_b75_ok hD hf K1 K0
        · refine xs_if_eq (tgt := 57) d22_49 (by decide) (fun hp => absurd hp hc13) (fun _ => ?_)
          refine xs_bipush (v := 15) d22_52 (by decide) ?_
          refine xs_goto (tgt := 75) d22_54 (by decide) ?_
          exact f_RuleReader_readTerm_b75_ok hD hf K1 K0
      · refine xs_if_eq (tgt := 40) d22_32 (by decide) (fun hp => absurd hp hc10) (fun _ => ?_)
        refine xs_bipush (v := 14) d22_35 (by decide) ?_
        refine xs_goto (tgt := 75) d22_37 (by decide) ?_
        exact f_RuleReader_readTerm_b75_ok hD hf K1 K0
noncomputable def f_RuleReader_readTerm_l6 (v1 : Int32) (h : xH) : Option xH :=
  whl (fun s => f_RuleReader_readTerm_s6 s.1 s.2) (v1, h)
theorem f_RuleReader_readTerm_l6_ok {g : xG} {l : Launch} {d : Nat} {v1 : Int32} {h : xH} {o : xH} {R : Option xV} {H' : xH} (hD : 2 ≤ d) (hf : f_RuleReader_readTerm_l6 v1 h = some o) (K0 : ∀ (h1 : xH), o = h1 → R = none ∧ H' = h1) : xEv g l d 22 6 [(0, xr 3 (some 0)), (1, xi v1)] [] h R H' := by
  obtain ⟨n, hn⟩ := whl_iff.mp hf
  clear hf
  induction n generalizing v1 h with
  | zero => cases hn
  | succ n ih =>
    obtain ⟨o2, hs, hn⟩ := lk_b (show (f_RuleReader_readTerm_s6 v1 h).bind (fun o => Sum.elim (itn _ n) some o) = some o from hn)
    exact f_RuleReader_readTerm_s6_ok hD hs (fun u0 u1 e => ih (by rw [e] at hn; exact hn)) (fun u0 e => K0 u0 (by rw [e] at hn; exact (Option.some.inj hn).symm))
noncomputable def f_RuleReader_readTerm_e (h : xH) : Option xH :=
  (f_RuleReader_readValue h).bind fun h3 =>
  f_RuleReader_readTerm_l6 (0 : Int32) h3
set_option maxHeartbeats 4000000 in
set_option maxRecDepth 100000 in
theorem f_RuleReader_readTerm_e_ok {g : xG} {l : Launch} {d : Nat} {h : xH} {o : xH} {R : Option xV} {H' : xH} (hD : 2 ≤ d) (hf : f_RuleReader_readTerm_e h = some o) (K0 : ∀ (h1 : xH), o = h1 → R = none ∧ H' = h1) : xEv g l d 22 0 [(0, xr 3 (some 0))] [] h R H' := by
  unfold f_RuleReader_readTerm_e at hf
  refine xs_aload_n d22_0 rfl ?_
  obtain ⟨h3, hc2, hf⟩ := lk_b hf
  refine xe_callv0 (as := []) (st := []) (h2 := h3) (d2 := d - 1) d22_1 ky22 ml45 st23 (by decide) cn23 rfl na23 (Nat.le_of_ble_eq_true rfl) (by omega) (f_RuleReader_readValue_ok (by omega) hc2) ?_
  refine xs_iconst (v := 0) d22_4 (by decide) ?_
  refine xe_istore_n (v := (0 : Int32)) (ls2 := [(0, xr 3 (some 0)), (1, xi (0 : Int32))]) d22_5 mx22 (by decide) rfl rfl ?_
  exact f_RuleReader_readTerm_l6_ok hD hf K0
noncomputable def f_RuleReader_readTerm (h : xH) : Option xH := f_RuleReader_readTerm_e h
theorem f_RuleReader_readTerm_ok {g : xG} {l : Launch} {d : Nat} {h : xH} {h1 : xH} (hD : 2 ≤ d) (hf : f_RuleReader_readTerm h = some h1) : xC g l d 22 [xr 3 (some 0)] h none h1 :=
  xC_of2 (by decide) mx22 (Nat.le_of_ble_eq_true rfl) (f_RuleReader_readTerm_e_ok hD hf (fun _ e => ⟨rfl, e⟩))
theorem d21_0 : decode (xcode 21) 0 = .ok (.aload_n 0, 1) := by decide +kernel
theorem d21_1 : decode (xcode 21) 1 = .ok (.invokevirtual 94, 3) := by decide +kernel
theorem d21_4 : decode (xcode 21) 4 = .ok (.iconst 0, 1) := by decide +kernel
theorem d21_5 : decode (xcode 21) 5 = .ok (.istore_n 1, 1) := by decide +kernel
theorem d21_6 : decode (xcode 21) 6 = .ok (.iload_n 1, 1) := by decide +kernel
theorem d21_7 : decode (xcode 21) 7 = .ok (.sipush 400, 3) := by decide +kernel
theorem d21_10 : decode (xcode 21) 10 = .ok (.if_icmp .ge 80, 3) := by decide +kernel
theorem d21_13 : decode (xcode 21) 13 = .ok (.aload_n 0, 1) := by decide +kernel
theorem d21_14 : decode (xcode 21) 14 = .ok (.getfield 9, 3) := by decide +kernel
theorem d21_17 : decode (xcode 21) 17 = .ok (.invokevirtual 60, 3) := by decide +kernel
theorem d21_20 : decode (xcode 21) 20 = .ok (.ifCond .eq 70, 3) := by decide +kernel
theorem d21_23 : decode (xcode 21) 23 = .ok (.aload_n 0, 1) := by decide +kernel
theorem d21_24 : decode (xcode 21) 24 = .ok (.getfield 9, 3) := by decide +kernel
theorem d21_27 : decode (xcode 21) 27 = .ok (.bipush 43, 2) := by decide +kernel
theorem d21_29 : decode (xcode 21) 29 = .ok (.invokevirtual 75, 3) := by decide +kernel
theorem d21_32 : decode (xcode 21) 32 = .ok (.ifCond .eq 8, 3) := by decide +kernel
theorem d21_35 : decode (xcode 21) 35 = .ok (.bipush 12, 2) := by decide +kernel
theorem d21_37 : decode (xcode 21) 37 = .ok (.goto 21, 3) := by decide +kernel
theorem d21_40 : decode (xcode 21) 40 = .ok (.aload_n 0, 1) := by decide +kernel
theorem d21_41 : decode (xcode 21) 41 = .ok (.getfield 9, 3) := by decide +kernel
theorem d21_44 : decode (xcode 21) 44 = .ok (.bipush 45, 2) := by decide +kernel
theorem d21_46 : decode (xcode 21) 46 = .ok (.invokevirtual 75, 3) := by decide +kernel
theorem d21_49 : decode (xcode 21) 49 = .ok (.ifCond .eq 8, 3) := by decide +kernel
theorem d21_52 : decode (xcode 21) 52 = .ok (.bipush 13, 2) := by decide +kernel
theorem d21_54 : decode (xcode 21) 54 = .ok (.goto 4, 3) := by decide +kernel
theorem d21_57 : decode (xcode 21) 57 = .ok (.iconst (-1), 1) := by decide +kernel
theorem d21_58 : decode (xcode 21) 58 = .ok (.istore_n 2, 1) := by decide +kernel
theorem d21_59 : decode (xcode 21) 59 = .ok (.iload_n 2, 1) := by decide +kernel
theorem d21_60 : decode (xcode 21) 60 = .ok (.iconst (-1), 1) := by decide +kernel
theorem d21_61 : decode (xcode 21) 61 = .ok (.if_icmp .ne 4, 3) := by decide +kernel
theorem d21_64 : decode (xcode 21) 64 = .ok (.return_, 1) := by decide +kernel
theorem d21_65 : decode (xcode 21) 65 = .ok (.aload_n 0, 1) := by decide +kernel
theorem d21_66 : decode (xcode 21) 66 = .ok (.getfield 9, 3) := by decide +kernel
theorem d21_69 : decode (xcode 21) 69 = .ok (.invokevirtual 54, 3) := by decide +kernel
theorem d21_72 : decode (xcode 21) 72 = .ok (.aload_n 0, 1) := by decide +kernel
theorem d21_73 : decode (xcode 21) 73 = .ok (.invokevirtual 94, 3) := by decide +kernel
theorem d21_76 : decode (xcode 21) 76 = .ok (.aload_n 0, 1) := by decide +kernel
theorem d21_77 : decode (xcode 21) 77 = .ok (.getfield 15, 3) := by decide +kernel
theorem d21_80 : decode (xcode 21) 80 = .ok (.iload_n 2, 1) := by decide +kernel
theorem d21_81 : decode (xcode 21) 81 = .ok (.invokevirtual 66, 3) := by decide +kernel
theorem d21_84 : decode (xcode 21) 84 = .ok (.iinc 1 1, 3) := by decide +kernel
theorem d21_87 : decode (xcode 21) 87 = .ok (.goto (-81), 3) := by decide +kernel
theorem d21_90 : decode (xcode 21) 90 = .ok (.return_, 1) := by decide +kernel
noncomputable def f_RuleReader_readSum_b58 (v1 : Int32) (t0 : Int32) (h : xH) : Option ((Int32 × xH) ⊕ xH) :=
  if t0 = (-1 : Int32) then (
  some (Sum.inr (h))) else (
  (f_Tape_goOn h).bind fun h17 =>
  (f_RuleReader_readTerm h17).bind fun h20 =>
  (h20.2.2.1 3 1 0).bind fun i921 =>
  (f_Rule_add i921 t0 h20).bind fun h24 =>
  xlet (v1 + (1 : Int32)) fun v1_25 =>
  some (Sum.inl (v1_25, h24)))
set_option maxHeartbeats 4000000 in
set_option maxRecDepth 100000 in
theorem f_RuleReader_readSum_b58_ok {g : xG} {l : Launch} {d : Nat} {v1 : Int32} {t0 : Int32} {h : xH} {o : ((Int32 × xH) ⊕ xH)} {R : Option xV} {H' : xH} (hD : 3 ≤ d) (hf : f_RuleReader_readSum_b58 v1 t0 h = some o) (K1 : ∀ (w1 : Int32) (h1 : xH), o = Sum.inl (w1, h1) → xEv g l d 21 6 [(0, xr 3 (some 0)), (1, xi w1)] [] h1 R H') (K0 : ∀ (h1 : xH), o = Sum.inr (h1) → R = none ∧ H' = h1) : xEv g l d 21 58 [(0, xr 3 (some 0)), (1, xi v1)] [xi t0] h R H' := by
  unfold f_RuleReader_readSum_b58 at hf
  refine xe_istore_n (v := t0) (ls2 := [(0, xr 3 (some 0)), (1, xi v1), (2, xi t0)]) d21_58 mx21 (by decide) rfl rfl ?_
  refine xs_iload_n d21_59 rfl ?_
  refine xs_iconst (v := -1) d21_60 (by decide) ?_
  rcases lk_if hf with ⟨hc14, hf⟩ | ⟨hc14, hf⟩
  · refine xs_icmp_ne (tgt := 65) d21_61 (by decide) (fun _ => ?_) (fun hn => absurd hc14 hn)
    obtain ⟨eR, eH⟩ := K0 _ (Option.some.inj hf).symm
    subst eR; subst eH
    exact xs_vret d21_64 rt21
  · refine xs_icmp_ne (tgt := 65) d21_61 (by decide) (fun hp => absurd hp hc14) (fun _ => ?_)
    refine xs_aload_n d21_65 rfl ?_
    refine xe_getc (j := 0) d21_66 ky21 fl58 fk3_0 rfl ?_
    obtain ⟨h17, hc16, hf⟩ := lk_b hf
    refine xe_callv0 (as := []) (st := []) (h2 := h17) (d2 := d - 1) d21_69 ky21 ml42 st68 (by decide) cn68 rfl na68 (Nat.le_of_ble_eq_true rfl) (by omega) (f_Tape_goOn_ok (by omega) hc16) ?_
    refine xs_aload_n d21_72 rfl ?_
    obtain ⟨h20, hc19, hf⟩ := lk_b hf
    refine xe_callv0 (as := []) (st := []) (h2 := h20) (d2 := d - 1) d21_73 ky21 ml44 st22 (by decide) cn22 rfl na22 (Nat.le_of_ble_eq_true rfl) (by omega) (f_RuleReader_readTerm_ok (by omega) hc19) ?_
    refine xs_aload_n d21_76 rfl ?_
    refine xe_getd d21_77 ky21 fl59 fk3_1 ?_
    refine xs_iload_n d21_80 rfl ?_
    obtain ⟨i921, ei921, hf⟩ := lk_b hf
    rw [ei921]
    obtain ⟨h24, hc23, hf⟩ := lk_b hf
    refine xe_callv0 (as := [xi t0]) (st := []) (h2 := h24) (d2 := d - 1) d21_81 ky21 ml46 st9 (by decide) cn9 rfl na9 (Nat.le_of_ble_eq_true rfl) (by omega) (f_Rule_add_ok (by omega) hc23) ?_
    obtain ⟨v1_25, ev1_25, hf⟩ := lk_let hf
    refine xe_iinc (v := v1_25) (b := 1) (ls2 := [(0, xr 3 (some 0)), (1, xi v1_25), (2, xi t0)]) d21_84 mx21 (by decide) rfl (by decide) ev1_25 rfl ?_
    refine xs_goto (tgt := 6) d21_87 (by decide) ?_
    refine xs_pick [0, 1] rfl ?_
    exact K1 _ _ (Option.some.inj hf).symm
noncomputable def f_RuleReader_readSum_s6 (v1 : Int32) (h : xH) : Option ((Int32 × xH) ⊕ xH) :=
  if (400 : Int32) ≤ v1 then (
  some (Sum.inr (h))) else (
  (f_Tape_isWell h).bind fun r5 =>
  if r5 = (0 : Int32) then (
  some (Sum.inr (h))) else (
  (f_Tape_isSign (43 : Int32) h).bind fun r8 =>
  if r8 = (0 : Int32) then (
  (f_Tape_isSign (45 : Int32) h).bind fun r11 =>
  if r11 = (0 : Int32) then (
  f_RuleReader_readSum_b58 v1 (-1 : Int32) h) else (
  f_RuleReader_readSum_b58 v1 (13 : Int32) h)) else (
  f_RuleReader_readSum_b58 v1 (12 : Int32) h)))
set_option maxHeartbeats 4000000 in
set_option maxRecDepth 100000 in
theorem f_RuleReader_readSum_s6_ok {g : xG} {l : Launch} {d : Nat} {v1 : Int32} {h : xH} {o : ((Int32 × xH) ⊕ xH)} {R : Option xV} {H' : xH} (hD : 3 ≤ d) (hf : f_RuleReader_readSum_s6 v1 h = some o) (K1 : ∀ (w1 : Int32) (h1 : xH), o = Sum.inl (w1, h1) → xEv g l d 21 6 [(0, xr 3 (some 0)), (1, xi w1)] [] h1 R H') (K0 : ∀ (h1 : xH), o = Sum.inr (h1) → R = none ∧ H' = h1) : xEv g l d 21 6 [(0, xr 3 (some 0)), (1, xi v1)] [] h R H' := by
  unfold f_RuleReader_readSum_s6 at hf
  refine xs_iload_n d21_6 rfl ?_
  refine xs_sipush (v := 400) d21_7 (by decide) ?_
  rcases lk_if hf with ⟨hc4, hf⟩ | ⟨hc4, hf⟩
  · refine xs_icmp_ge (tgt := 90) d21_10 (by decide) (fun _ => ?_) (fun hn => absurd hc4 hn)
    obtain ⟨eR, eH⟩ := K0 _ (Option.some.inj hf).symm
    subst eR; subst eH
    exact xs_vret d21_90 rt21
  · refine xs_icmp_ge (tgt := 90) d21_10 (by decide) (fun hp => absurd hp hc4) (fun _ => ?_)
    refine xs_aload_n d21_13 rfl ?_
    refine xe_getc (j := 0) d21_14 ky21 fl58 fk3_0 rfl ?_
    obtain ⟨r5, hc6, hf⟩ := lk_b hf
    refine xe_callv1 (as := []) (st := []) (h2 := h) (d2 := d - 1) d21_17 ky21 ml47 st69 (by decide) cn69 rfl na69 (Nat.le_of_ble_eq_true rfl) (by omega) (f_Tape_isWell_ok (by omega) hc6) ?_
    rcases lk_if hf with ⟨hc7, hf⟩ | ⟨hc7, hf⟩
    · refine xs_if_eq (tgt := 90) d21_20 (by decide) (fun _ => ?_) (fun hn => absurd hc7 hn)
      obtain ⟨eR, eH⟩ := K0 _ (Option.some.inj hf).symm
      subst eR; subst eH
      exact xs_vret d21_90 rt21
    · refine xs_if_eq (tgt := 90) d21_20 (by decide) (fun hp => absurd hp hc7) (fun _ => ?_)
      refine xs_aload_n d21_23 rfl ?_
      refine xe_getc (j := 0) d21_24 ky21 fl58 fk3_0 rfl ?_
      refine xs_bipush (v := 43) d21_27 (by decide) ?_
      obtain ⟨r8, hc9, hf⟩ := lk_b hf
      refine xe_callv1 (as := [xi (43 : Int32)]) (st := []) (h2 := h) (d2 := d - 1) d21_29 ky21 ml48 st71 (by decide) cn71 rfl na71 (Nat.le_of_ble_eq_true rfl) (by omega) (f_Tape_isSign_ok (by omega) hc9) ?_
      rcases lk_if hf with ⟨hc10, hf⟩ | ⟨hc10, hf⟩
      · refine xs_if_eq (tgt := 40) d21_32 (by decide) (fun _ => ?_) (fun hn => absurd hc10 hn)
        refine xs_aload_n d21_40 rfl ?_
        refine xe_getc (j := 0) d21_41 ky21 fl58 fk3_0 rfl ?_
        refine xs_bipush (v := 45) d21_44 (by decide) ?_
        obtain ⟨r11, hc12, hf⟩ := lk_b hf
        refine xe_callv1 (as := [xi (45 : Int32)]) (st := []) (h2 := h) (d2 := d - 1) d21_46 ky21 ml48 st71 (by decide) cn71 rfl na71 (Nat.le_of_ble_eq_true rfl) (by omega) (f_Tape_isSign_ok (by omega) hc12) ?_
        rcases lk_if hf with ⟨hc13, hf⟩ | ⟨hc13, hf⟩
        · refine xs_if_eq (tgt := 57) d21_49 (by decide) (fun _ => ?_) (fun hn => absurd hc13 hn)
          refine xs_iconst (v := -1) d21_57 (by decide) ?_
          exact f_RuleReader_readSum_b58_ok hD hf K1 K0
        · refine xs_if_eq (tgt := 57) d21_49 (by decide) (fun hp => absurd hp hc13) (fun _ => ?_)
          refine xs_bipush (v := 13) d21_52 (by decide) ?_
          refine xs_goto (tgt := 58) d21_54 (by decide) ?_
          exact f_RuleReader_readSum_b58_ok hD hf K1 K0
      · refine xs_if_eq (tgt := 40) d21_32 (by decide) (fun hp => absurd hp hc10) (fun _ => ?_)
        refine xs_bipush (v := 12) d21_35 (by decide) ?_
        refine xs_goto (tgt := 58) d21_37 (by decide) ?_
        exact f_RuleReader_readSum_b58_ok hD hf K1 K0
noncomputable def f_RuleReader_readSum_l6 (v1 : Int32) (h : xH) : Option xH :=
  whl (fun s => f_RuleReader_readSum_s6 s.1 s.2) (v1, h)
theorem f_RuleReader_readSum_l6_ok {g : xG} {l : Launch} {d : Nat} {v1 : Int32} {h : xH} {o : xH} {R : Option xV} {H' : xH} (hD : 3 ≤ d) (hf : f_RuleReader_readSum_l6 v1 h = some o) (K0 : ∀ (h1 : xH), o = h1 → R = none ∧ H' = h1) : xEv g l d 21 6 [(0, xr 3 (some 0)), (1, xi v1)] [] h R H' := by
  obtain ⟨n, hn⟩ := whl_iff.mp hf
  clear hf
  induction n generalizing v1 h with
  | zero => cases hn
  | succ n ih =>
    obtain ⟨o2, hs, hn⟩ := lk_b (show (f_RuleReader_readSum_s6 v1 h).bind (fun o => Sum.elim (itn _ n) some o) = some o from hn)
    exact f_RuleReader_readSum_s6_ok hD hs (fun u0 u1 e => ih (by rw [e] at hn; exact hn)) (fun u0 e => K0 u0 (by rw [e] at hn; exact (Option.some.inj hn).symm))
noncomputable def f_RuleReader_readSum_e (h : xH) : Option xH :=
  (f_RuleReader_readTerm h).bind fun h3 =>
  f_RuleReader_readSum_l6 (0 : Int32) h3
set_option maxHeartbeats 4000000 in
set_option maxRecDepth 100000 in
theorem f_RuleReader_readSum_e_ok {g : xG} {l : Launch} {d : Nat} {h : xH} {o : xH} {R : Option xV} {H' : xH} (hD : 3 ≤ d) (hf : f_RuleReader_readSum_e h = some o) (K0 : ∀ (h1 : xH), o = h1 → R = none ∧ H' = h1) : xEv g l d 21 0 [(0, xr 3 (some 0))] [] h R H' := by
  unfold f_RuleReader_readSum_e at hf
  refine xs_aload_n d21_0 rfl ?_
  obtain ⟨h3, hc2, hf⟩ := lk_b hf
  refine xe_callv0 (as := []) (st := []) (h2 := h3) (d2 := d - 1) d21_1 ky21 ml44 st22 (by decide) cn22 rfl na22 (Nat.le_of_ble_eq_true rfl) (by omega) (f_RuleReader_readTerm_ok (by omega) hc2) ?_
  refine xs_iconst (v := 0) d21_4 (by decide) ?_
  refine xe_istore_n (v := (0 : Int32)) (ls2 := [(0, xr 3 (some 0)), (1, xi (0 : Int32))]) d21_5 mx21 (by decide) rfl rfl ?_
  exact f_RuleReader_readSum_l6_ok hD hf K0
noncomputable def f_RuleReader_readSum (h : xH) : Option xH := f_RuleReader_readSum_e h
theorem f_RuleReader_readSum_ok {g : xG} {l : Launch} {d : Nat} {h : xH} {h1 : xH} (hD : 3 ≤ d) (hf : f_RuleReader_readSum h = some h1) : xC g l d 21 [xr 3 (some 0)] h none h1 :=
  xC_of2 (by decide) mx21 (Nat.le_of_ble_eq_true rfl) (f_RuleReader_readSum_e_ok hD hf (fun _ e => ⟨rfl, e⟩))
theorem d15_0 : decode (xcode 15) 0 = .ok (.aload_n 0, 1) := by decide +kernel
theorem d15_1 : decode (xcode 15) 1 = .ok (.iload_n 1, 1) := by decide +kernel
theorem d15_2 : decode (xcode 15) 2 = .ok (.invokevirtual 69, 3) := by decide +kernel
theorem d15_5 : decode (xcode 15) 5 = .ok (.iconst 0, 1) := by decide +kernel
theorem d15_6 : decode (xcode 15) 6 = .ok (.istore_n 2, 1) := by decide +kernel
theorem d15_7 : decode (xcode 15) 7 = .ok (.iload_n 2, 1) := by decide +kernel
theorem d15_8 : decode (xcode 15) 8 = .ok (.sipush 400, 3) := by decide +kernel
theorem d15_11 : decode (xcode 15) 11 = .ok (.if_icmp .ge 52, 3) := by decide +kernel
theorem d15_14 : decode (xcode 15) 14 = .ok (.aload_n 0, 1) := by decide +kernel
theorem d15_15 : decode (xcode 15) 15 = .ok (.getfield 9, 3) := by decide +kernel
theorem d15_18 : decode (xcode 15) 18 = .ok (.invokevirtual 60, 3) := by decide +kernel
theorem d15_21 : decode (xcode 15) 21 = .ok (.ifCond .eq 42, 3) := by decide +kernel
theorem d15_24 : decode (xcode 15) 24 = .ok (.aload_n 0, 1) := by decide +kernel
theorem d15_25 : decode (xcode 15) 25 = .ok (.getfield 9, 3) := by decide +kernel
theorem d15_28 : decode (xcode 15) 28 = .ok (.bipush 17, 2) := by decide +kernel
theorem d15_30 : decode (xcode 15) 30 = .ok (.invokevirtual 46, 3) := by decide +kernel
theorem d15_33 : decode (xcode 15) 33 = .ok (.ifCond .eq 30, 3) := by decide +kernel
theorem d15_36 : decode (xcode 15) 36 = .ok (.aload_n 0, 1) := by decide +kernel
theorem d15_37 : decode (xcode 15) 37 = .ok (.getfield 9, 3) := by decide +kernel
theorem d15_40 : decode (xcode 15) 40 = .ok (.invokevirtual 54, 3) := by decide +kernel
theorem d15_43 : decode (xcode 15) 43 = .ok (.aload_n 0, 1) := by decide +kernel
theorem d15_44 : decode (xcode 15) 44 = .ok (.iload_n 1, 1) := by decide +kernel
theorem d15_45 : decode (xcode 15) 45 = .ok (.invokevirtual 69, 3) := by decide +kernel
theorem d15_48 : decode (xcode 15) 48 = .ok (.aload_n 0, 1) := by decide +kernel
theorem d15_49 : decode (xcode 15) 49 = .ok (.getfield 15, 3) := by decide +kernel
theorem d15_52 : decode (xcode 15) 52 = .ok (.bipush 23, 2) := by decide +kernel
theorem d15_54 : decode (xcode 15) 54 = .ok (.invokevirtual 66, 3) := by decide +kernel
theorem d15_57 : decode (xcode 15) 57 = .ok (.iinc 2 1, 3) := by decide +kernel
theorem d15_60 : decode (xcode 15) 60 = .ok (.goto (-53), 3) := by decide +kernel
theorem d15_63 : decode (xcode 15) 63 = .ok (.return_, 1) := by decide +kernel
noncomputable def f_RuleReader_readTest_s7 (cb_readPart : Int32 → xH → Option xH) (v1 : Int32) (v2 : Int32) (h : xH) : Option ((Int32 × xH) ⊕ xH) :=
  if (400 : Int32) ≤ v2 then (
  some (Sum.inr (h))) else (
  (f_Tape_isWell h).bind fun r5 =>
  if r5 = (0 : Int32) then (
  some (Sum.inr (h))) else (
  (f_Tape_isWord (17 : Int32) h).bind fun r8 =>
  if r8 = (0 : Int32) then (
  some (Sum.inr (h))) else (
  (f_Tape_goOn h).bind fun h13 =>
  (cb_readPart v1 h13).bind fun h16 =>
  (h16.2.2.1 3 1 0).bind fun i917 =>
  (f_Rule_add i917 (23 : Int32) h16).bind fun h20 =>
  xlet (v2 + (1 : Int32)) fun v2_21 =>
  some (Sum.inl (v2_21, h20)))))
set_option maxHeartbeats 4000000 in
set_option maxRecDepth 100000 in
theorem f_RuleReader_readTest_s7_ok {g : xG} {l : Launch} {d : Nat} {cb_readPart : Int32 → xH → Option xH} {v1 : Int32} {v2 : Int32} {h : xH} {o : ((Int32 × xH) ⊕ xH)} {R : Option xV} {H' : xH} (hD : 1 ≤ d) (kb_readPart : ∀ (a : Int32) (h h1 : xH), cb_readPart a h = some h1 → xC g l (d - 1) 16 [xr 3 (some 0), xi a] h none h1) (hf : f_RuleReader_readTest_s7 cb_readPart v1 v2 h = some o) (K1 : ∀ (w2 : Int32) (h1 : xH), o = Sum.inl (w2, h1) → xEv g l d 15 7 [(0, xr 3 (some 0)), (1, xi v1), (2, xi w2)] [] h1 R H') (K0 : ∀ (h1 : xH), o = Sum.inr (h1) → R = none ∧ H' = h1) : xEv g l d 15 7 [(0, xr 3 (some 0)), (1, xi v1), (2, xi v2)] [] h R H' := by
  unfold f_RuleReader_readTest_s7 at hf
  refine xs_iload_n d15_7 rfl ?_
  refine xs_sipush (v := 400) d15_8 (by decide) ?_
  rcases lk_if hf with ⟨hc4, hf⟩ | ⟨hc4, hf⟩
  · refine xs_icmp_ge (tgt := 63) d15_11 (by decide) (fun _ => ?_) (fun hn => absurd hc4 hn)
    obtain ⟨eR, eH⟩ := K0 _ (Option.some.inj hf).symm
    subst eR; subst eH
    exact xs_vret d15_63 rt15
  · refine xs_icmp_ge (tgt := 63) d15_11 (by decide) (fun hp => absurd hp hc4) (fun _ => ?_)
    refine xs_aload_n d15_14 rfl ?_
    refine xe_getc (j := 0) d15_15 ky15 fl58 fk3_0 rfl ?_
    obtain ⟨r5, hc6, hf⟩ := lk_b hf
    refine xe_callv1 (as := []) (st := []) (h2 := h) (d2 := d - 1) d15_18 ky15 ml47 st69 (by decide) cn69 rfl na69 (Nat.le_of_ble_eq_true rfl) (by omega) (f_Tape_isWell_ok (by omega) hc6) ?_
    rcases lk_if hf with ⟨hc7, hf⟩ | ⟨hc7, hf⟩
    · refine xs_if_eq (tgt := 63) d15_21 (by decide) (fun _ => ?_) (fun hn => absurd hc7 hn)
      obtain ⟨eR, eH⟩ := K0 _ (Option.some.inj hf).symm
      subst eR; subst eH
      exact xs_vret d15_63 rt15
    · refine xs_if_eq (tgt := 63) d15_21 (by decide) (fun hp => absurd hp hc7) (fun _ => ?_)
      refine xs_aload_n d15_24 rfl ?_
      refine xe_getc (j := 0) d15_25 ky15 fl58 fk3_0 rfl ?_
      refine xs_bipush (v := 17) d15_28 (by decide) ?_
      obtain ⟨r8, hc9, hf⟩ := lk_b hf
      refine xe_callv1 (as := [xi (17 : Int32)]) (st := []) (h2 := h) (d2 := d - 1) d15_30 ky15 ml40 st72 (by decide) cn72 rfl na72 (Nat.le_of_ble_eq_true rfl) (by omega) (f_Tape_isWord_ok (by omega) hc9) ?_
      rcases lk_if hf with ⟨hc10, hf⟩ | ⟨hc10, hf⟩
      · refine xs_if_eq (tgt := 63) d15_33 (by decide) (fun _ => ?_) (fun hn => absurd hc10 hn)
        obtain ⟨eR, eH⟩ := K0 _ (Option.some.inj hf).symm
        subst eR; subst eH
        exact xs_vret d15_63 rt15
      · refine xs_if_eq (tgt := 63) d15_33 (by decide) (fun hp => absurd hp hc10) (fun _ => ?_)
        refine xs_aload_n d15_36 rfl ?_
        refine xe_getc (j := 0) d15_37 ky15 fl58 fk3_0 rfl ?_
        obtain ⟨h13, hc12, hf⟩ := lk_b hf
        refine xe_callv0 (as := []) (st := []) (h2 := h13) (d2 := d - 1) d15_40 ky15 ml42 st68 (by decide) cn68 rfl na68 (Nat.le_of_ble_eq_true rfl) (by omega) (f_Tape_goOn_ok (by omega) hc12) ?_
        refine xs_aload_n d15_43 rfl ?_
        refine xs_iload_n d15_44 rfl ?_
        obtain ⟨h16, hc15, hf⟩ := lk_b hf
        refine xe_callv0 (as := [xi v1]) (st := []) (h2 := h16) (d2 := d - 1) d15_45 ky15 ml50 st16 (by decide) cn16 rfl na16 (Nat.le_of_ble_eq_true rfl) (by omega) (kb_readPart _ _ _ hc15) ?_
        refine xs_aload_n d15_48 rfl ?_
        refine xe_getd d15_49 ky15 fl59 fk3_1 ?_
        refine xs_bipush (v := 23) d15_52 (by decide) ?_
        obtain ⟨i917, ei917, hf⟩ := lk_b hf
        rw [ei917]
        obtain ⟨h20, hc19, hf⟩ := lk_b hf
        refine xe_callv0 (as := [xi (23 : Int32)]) (st := []) (h2 := h20) (d2 := d - 1) d15_54 ky15 ml46 st9 (by decide) cn9 rfl na9 (Nat.le_of_ble_eq_true rfl) (by omega) (f_Rule_add_ok (by omega) hc19) ?_
        obtain ⟨v2_21, ev2_21, hf⟩ := lk_let hf
        refine xe_iinc (v := v2_21) (b := 1) (ls2 := [(0, xr 3 (some 0)), (1, xi v1), (2, xi v2_21)]) d15_57 mx15 (by decide) rfl (by decide) ev2_21 rfl ?_
        refine xs_goto (tgt := 7) d15_60 (by decide) ?_
        exact K1 _ _ (Option.some.inj hf).symm
noncomputable def f_RuleReader_readTest_l7 (cb_readPart : Int32 → xH → Option xH) (v1 : Int32) (v2 : Int32) (h : xH) : Option xH :=
  whl (fun s => f_RuleReader_readTest_s7 cb_readPart v1 s.1 s.2) (v2, h)
theorem f_RuleReader_readTest_l7_ok {g : xG} {l : Launch} {d : Nat} {cb_readPart : Int32 → xH → Option xH} {v1 : Int32} {v2 : Int32} {h : xH} {o : xH} {R : Option xV} {H' : xH} (hD : 1 ≤ d) (kb_readPart : ∀ (a : Int32) (h h1 : xH), cb_readPart a h = some h1 → xC g l (d - 1) 16 [xr 3 (some 0), xi a] h none h1) (hf : f_RuleReader_readTest_l7 cb_readPart v1 v2 h = some o) (K0 : ∀ (h1 : xH), o = h1 → R = none ∧ H' = h1) : xEv g l d 15 7 [(0, xr 3 (some 0)), (1, xi v1), (2, xi v2)] [] h R H' := by
  obtain ⟨n, hn⟩ := whl_iff.mp hf
  clear hf
  induction n generalizing v2 h with
  | zero => cases hn
  | succ n ih =>
    obtain ⟨o2, hs, hn⟩ := lk_b (show (f_RuleReader_readTest_s7 cb_readPart v1 v2 h).bind (fun o => Sum.elim (itn _ n) some o) = some o from hn)
    exact f_RuleReader_readTest_s7_ok hD kb_readPart hs (fun u0 u1 e => ih (by rw [e] at hn; exact hn)) (fun u0 e => K0 u0 (by rw [e] at hn; exact (Option.some.inj hn).symm))
noncomputable def f_RuleReader_readTest_e (cb_readPart : Int32 → xH → Option xH) (v1 : Int32) (h : xH) : Option xH :=
  (cb_readPart v1 h).bind fun h3 =>
  f_RuleReader_readTest_l7 cb_readPart v1 (0 : Int32) h3
set_option maxHeartbeats 4000000 in
set_option maxRecDepth 100000 in
theorem f_RuleReader_readTest_e_ok {g : xG} {l : Launch} {d : Nat} {cb_readPart : Int32 → xH → Option xH} {v1 : Int32} {h : xH} {o : xH} {R : Option xV} {H' : xH} (hD : 1 ≤ d) (kb_readPart : ∀ (a : Int32) (h h1 : xH), cb_readPart a h = some h1 → xC g l (d - 1) 16 [xr 3 (some 0), xi a] h none h1) (hf : f_RuleReader_readTest_e cb_readPart v1 h = some o) (K0 : ∀ (h1 : xH), o = h1 → R = none ∧ H' = h1) : xEv g l d 15 0 [(0, xr 3 (some 0)), (1, xi v1)] [] h R H' := by
  unfold f_RuleReader_readTest_e at hf
  refine xs_aload_n d15_0 rfl ?_
  refine xs_iload_n d15_1 rfl ?_
  obtain ⟨h3, hc2, hf⟩ := lk_b hf
  refine xe_callv0 (as := [xi v1]) (st := []) (h2 := h3) (d2 := d - 1) d15_2 ky15 ml50 st16 (by decide) cn16 rfl na16 (Nat.le_of_ble_eq_true rfl) (by omega) (kb_readPart _ _ _ hc2) ?_
  refine xs_iconst (v := 0) d15_5 (by decide) ?_
  refine xe_istore_n (v := (0 : Int32)) (ls2 := [(0, xr 3 (some 0)), (1, xi v1), (2, xi (0 : Int32))]) d15_6 mx15 (by decide) rfl rfl ?_
  exact f_RuleReader_readTest_l7_ok hD kb_readPart hf K0
noncomputable def f_RuleReader_readTest (cb_readPart : Int32 → xH → Option xH) (v1 : Int32) (h : xH) : Option xH := f_RuleReader_readTest_e cb_readPart v1 h
theorem f_RuleReader_readTest_ok {g : xG} {l : Launch} {d : Nat} {cb_readPart : Int32 → xH → Option xH} {v1 : Int32} {h : xH} {h1 : xH} (hD : 1 ≤ d) (kb_readPart : ∀ (a : Int32) (h h1 : xH), cb_readPart a h = some h1 → xC g l (d - 1) 16 [xr 3 (some 0), xi a] h none h1) (hf : f_RuleReader_readTest cb_readPart v1 h = some h1) : xC g l d 15 [xr 3 (some 0), xi v1] h none h1 :=
  xC_of2 (by decide) mx15 (Nat.le_of_ble_eq_true rfl) (f_RuleReader_readTest_e_ok hD kb_readPart hf (fun _ e => ⟨rfl, e⟩))
theorem d16_0 : decode (xcode 16) 0 = .ok (.aload_n 0, 1) := by decide +kernel
theorem d16_1 : decode (xcode 16) 1 = .ok (.iload_n 1, 1) := by decide +kernel
theorem d16_2 : decode (xcode 16) 2 = .ok (.invokevirtual 72, 3) := by decide +kernel
theorem d16_5 : decode (xcode 16) 5 = .ok (.iconst 0, 1) := by decide +kernel
theorem d16_6 : decode (xcode 16) 6 = .ok (.istore_n 2, 1) := by decide +kernel
theorem d16_7 : decode (xcode 16) 7 = .ok (.iload_n 2, 1) := by decide +kernel
theorem d16_8 : decode (xcode 16) 8 = .ok (.sipush 400, 3) := by decide +kernel
theorem d16_11 : decode (xcode 16) 11 = .ok (.if_icmp .ge 52, 3) := by decide +kernel
theorem d16_14 : decode (xcode 16) 14 = .ok (.aload_n 0, 1) := by decide +kernel
theorem d16_15 : decode (xcode 16) 15 = .ok (.getfield 9, 3) := by decide +kernel
theorem d16_18 : decode (xcode 16) 18 = .ok (.invokevirtual 60, 3) := by decide +kernel
theorem d16_21 : decode (xcode 16) 21 = .ok (.ifCond .eq 42, 3) := by decide +kernel
theorem d16_24 : decode (xcode 16) 24 = .ok (.aload_n 0, 1) := by decide +kernel
theorem d16_25 : decode (xcode 16) 25 = .ok (.getfield 9, 3) := by decide +kernel
theorem d16_28 : decode (xcode 16) 28 = .ok (.bipush 18, 2) := by decide +kernel
theorem d16_30 : decode (xcode 16) 30 = .ok (.invokevirtual 46, 3) := by decide +kernel
theorem d16_33 : decode (xcode 16) 33 = .ok (.ifCond .eq 30, 3) := by decide +kernel
theorem d16_36 : decode (xcode 16) 36 = .ok (.aload_n 0, 1) := by decide +kernel
theorem d16_37 : decode (xcode 16) 37 = .ok (.getfield 9, 3) := by decide +kernel
theorem d16_40 : decode (xcode 16) 40 = .ok (.invokevirtual 54, 3) := by decide +kernel
theorem d16_43 : decode (xcode 16) 43 = .ok (.aload_n 0, 1) := by decide +kernel
theorem d16_44 : decode (xcode 16) 44 = .ok (.iload_n 1, 1) := by decide +kernel
theorem d16_45 : decode (xcode 16) 45 = .ok (.invokevirtual 72, 3) := by decide +kernel
theorem d16_48 : decode (xcode 16) 48 = .ok (.aload_n 0, 1) := by decide +kernel
theorem d16_49 : decode (xcode 16) 49 = .ok (.getfield 15, 3) := by decide +kernel
theorem d16_52 : decode (xcode 16) 52 = .ok (.bipush 22, 2) := by decide +kernel
theorem d16_54 : decode (xcode 16) 54 = .ok (.invokevirtual 66, 3) := by decide +kernel
theorem d16_57 : decode (xcode 16) 57 = .ok (.iinc 2 1, 3) := by decide +kernel
theorem d16_60 : decode (xcode 16) 60 = .ok (.goto (-53), 3) := by decide +kernel
theorem d16_63 : decode (xcode 16) 63 = .ok (.return_, 1) := by decide +kernel
noncomputable def f_RuleReader_readPart_s7 (cb_readFact : Int32 → xH → Option xH) (v1 : Int32) (v2 : Int32) (h : xH) : Option ((Int32 × xH) ⊕ xH) :=
  if (400 : Int32) ≤ v2 then (
  some (Sum.inr (h))) else (
  (f_Tape_isWell h).bind fun r5 =>
  if r5 = (0 : Int32) then (
  some (Sum.inr (h))) else (
  (f_Tape_isWord (18 : Int32) h).bind fun r8 =>
  if r8 = (0 : Int32) then (
  some (Sum.inr (h))) else (
  (f_Tape_goOn h).bind fun h13 =>
  (cb_readFact v1 h13).bind fun h16 =>
  (h16.2.2.1 3 1 0).bind fun i917 =>
  (f_Rule_add i917 (22 : Int32) h16).bind fun h20 =>
  xlet (v2 + (1 : Int32)) fun v2_21 =>
  some (Sum.inl (v2_21, h20)))))
set_option maxHeartbeats 4000000 in
set_option maxRecDepth 100000 in
theorem f_RuleReader_readPart_s7_ok {g : xG} {l : Launch} {d : Nat} {cb_readFact : Int32 → xH → Option xH} {v1 : Int32} {v2 : Int32} {h : xH} {o : ((Int32 × xH) ⊕ xH)} {R : Option xV} {H' : xH} (hD : 1 ≤ d) (kb_readFact : ∀ (a : Int32) (h h1 : xH), cb_readFact a h = some h1 → xC g l (d - 1) 17 [xr 3 (some 0), xi a] h none h1) (hf : f_RuleReader_readPart_s7 cb_readFact v1 v2 h = some o) (K1 : ∀ (w2 : Int32) (h1 : xH), o = Sum.inl (w2, h1) → xEv g l d 16 7 [(0, xr 3 (some 0)), (1, xi v1), (2, xi w2)] [] h1 R H') (K0 : ∀ (h1 : xH), o = Sum.inr (h1) → R = none ∧ H' = h1) : xEv g l d 16 7 [(0, xr 3 (some 0)), (1, xi v1), (2, xi v2)] [] h R H' := by
  unfold f_RuleReader_readPart_s7 at hf
  refine xs_iload_n d16_7 rfl ?_
  refine xs_sipush (v := 400) d16_8 (by decide) ?_
  rcases lk_if hf with ⟨hc4, hf⟩ | ⟨hc4, hf⟩
  · refine xs_icmp_ge (tgt := 63) d16_11 (by decide) (fun _ => ?_) (fun hn => absurd hc4 hn)
    obtain ⟨eR, eH⟩ := K0 _ (Option.some.inj hf).symm
    subst eR; subst eH
    exact xs_vret d16_63 rt16
  · refine xs_icmp_ge (tgt := 63) d16_11 (by decide) (fun hp => absurd hp hc4) (fun _ => ?_)
    refine xs_aload_n d16_14 rfl ?_
    refine xe_getc (j := 0) d16_15 ky16 fl58 fk3_0 rfl ?_
    obtain ⟨r5, hc6, hf⟩ := lk_b hf
    refine xe_callv1 (as := []) (st := []) (h2 := h) (d2 := d - 1) d16_18 ky16 ml47 st69 (by decide) cn69 rfl na69 (Nat.le_of_ble_eq_true rfl) (by omega) (f_Tape_isWell_ok (by omega) hc6) ?_
    rcases lk_if hf with ⟨hc7, hf⟩ | ⟨hc7, hf⟩
    · refine xs_if_eq (tgt := 63) d16_21 (by decide) (fun _ => ?_) (fun hn => absurd hc7 hn)
      obtain ⟨eR, eH⟩ := K0 _ (Option.some.inj hf).symm
      subst eR; subst eH
      exact xs_vret d16_63 rt16
    · refine xs_if_eq (tgt := 63) d16_21 (by decide) (fun hp => absurd hp hc7) (fun _ => ?_)
      refine xs_aload_n d16_24 rfl ?_
      refine xe_getc (j := 0) d16_25 ky16 fl58 fk3_0 rfl ?_
      refine xs_bipush (v := 18) d16_28 (by decide) ?_
      obtain ⟨r8, hc9, hf⟩ := lk_b hf
      refine xe_callv1 (as := [xi (18 : Int32)]) (st := []) (h2 := h) (d2 := d - 1) d16_30 ky16 ml40 st72 (by decide) cn72 rfl na72 (Nat.le_of_ble_eq_true rfl) (by omega) (f_Tape_isWord_ok (by omega) hc9) ?_
      rcases lk_if hf with ⟨hc10, hf⟩ | ⟨hc10, hf⟩
      · refine xs_if_eq (tgt := 63) d16_33 (by decide) (fun _ => ?_) (fun hn => absurd hc10 hn)
        obtain ⟨eR, eH⟩ := K0 _ (Option.some.inj hf).symm
        subst eR; subst eH
        exact xs_vret d16_63 rt16
      · refine xs_if_eq (tgt := 63) d16_33 (by decide) (fun hp => absurd hp hc10) (fun _ => ?_)
        refine xs_aload_n d16_36 rfl ?_
        refine xe_getc (j := 0) d16_37 ky16 fl58 fk3_0 rfl ?_
        obtain ⟨h13, hc12, hf⟩ := lk_b hf
        refine xe_callv0 (as := []) (st := []) (h2 := h13) (d2 := d - 1) d16_40 ky16 ml42 st68 (by decide) cn68 rfl na68 (Nat.le_of_ble_eq_true rfl) (by omega) (f_Tape_goOn_ok (by omega) hc12) ?_
        refine xs_aload_n d16_43 rfl ?_
        refine xs_iload_n d16_44 rfl ?_
        obtain ⟨h16, hc15, hf⟩ := lk_b hf
        refine xe_callv0 (as := [xi v1]) (st := []) (h2 := h16) (d2 := d - 1) d16_45 ky16 ml51 st17 (by decide) cn17 rfl na17 (Nat.le_of_ble_eq_true rfl) (by omega) (kb_readFact _ _ _ hc15) ?_
        refine xs_aload_n d16_48 rfl ?_
        refine xe_getd d16_49 ky16 fl59 fk3_1 ?_
        refine xs_bipush (v := 22) d16_52 (by decide) ?_
        obtain ⟨i917, ei917, hf⟩ := lk_b hf
        rw [ei917]
        obtain ⟨h20, hc19, hf⟩ := lk_b hf
        refine xe_callv0 (as := [xi (22 : Int32)]) (st := []) (h2 := h20) (d2 := d - 1) d16_54 ky16 ml46 st9 (by decide) cn9 rfl na9 (Nat.le_of_ble_eq_true rfl) (by omega) (f_Rule_add_ok (by omega) hc19) ?_
        obtain ⟨v2_21, ev2_21, hf⟩ := lk_let hf
        refine xe_iinc (v := v2_21) (b := 1) (ls2 := [(0, xr 3 (some 0)), (1, xi v1), (2, xi v2_21)]) d16_57 mx16 (by decide) rfl (by decide) ev2_21 rfl ?_
        refine xs_goto (tgt := 7) d16_60 (by decide) ?_
        exact K1 _ _ (Option.some.inj hf).symm
noncomputable def f_RuleReader_readPart_l7 (cb_readFact : Int32 → xH → Option xH) (v1 : Int32) (v2 : Int32) (h : xH) : Option xH :=
  whl (fun s => f_RuleReader_readPart_s7 cb_readFact v1 s.1 s.2) (v2, h)
theorem f_RuleReader_readPart_l7_ok {g : xG} {l : Launch} {d : Nat} {cb_readFact : Int32 → xH → Option xH} {v1 : Int32} {v2 : Int32} {h : xH} {o : xH} {R : Option xV} {H' : xH} (hD : 1 ≤ d) (kb_readFact : ∀ (a : Int32) (h h1 : xH), cb_readFact a h = some h1 → xC g l (d - 1) 17 [xr 3 (some 0), xi a] h none h1) (hf : f_RuleReader_readPart_l7 cb_readFact v1 v2 h = some o) (K0 : ∀ (h1 : xH), o = h1 → R = none ∧ H' = h1) : xEv g l d 16 7 [(0, xr 3 (some 0)), (1, xi v1), (2, xi v2)] [] h R H' := by
  obtain ⟨n, hn⟩ := whl_iff.mp hf
  clear hf
  induction n generalizing v2 h with
  | zero => cases hn
  | succ n ih =>
    obtain ⟨o2, hs, hn⟩ := lk_b (show (f_RuleReader_readPart_s7 cb_readFact v1 v2 h).bind (fun o => Sum.elim (itn _ n) some o) = some o from hn)
    exact f_RuleReader_readPart_s7_ok hD kb_readFact hs (fun u0 u1 e => ih (by rw [e] at hn; exact hn)) (fun u0 e => K0 u0 (by rw [e] at hn; exact (Option.some.inj hn).symm))
noncomputable def f_RuleReader_readPart_e (cb_readFact : Int32 → xH → Option xH) (v1 : Int32) (h : xH) : Option xH :=
  (cb_readFact v1 h).bind fun h3 =>
  f_RuleReader_readPart_l7 cb_readFact v1 (0 : Int32) h3
set_option maxHeartbeats 4000000 in
set_option maxRecDepth 100000 in
theorem f_RuleReader_readPart_e_ok {g : xG} {l : Launch} {d : Nat} {cb_readFact : Int32 → xH → Option xH} {v1 : Int32} {h : xH} {o : xH} {R : Option xV} {H' : xH} (hD : 1 ≤ d) (kb_readFact : ∀ (a : Int32) (h h1 : xH), cb_readFact a h = some h1 → xC g l (d - 1) 17 [xr 3 (some 0), xi a] h none h1) (hf : f_RuleReader_readPart_e cb_readFact v1 h = some o) (K0 : ∀ (h1 : xH), o = h1 → R = none ∧ H' = h1) : xEv g l d 16 0 [(0, xr 3 (some 0)), (1, xi v1)] [] h R H' := by
  unfold f_RuleReader_readPart_e at hf
  refine xs_aload_n d16_0 rfl ?_
  refine xs_iload_n d16_1 rfl ?_
  obtain ⟨h3, hc2, hf⟩ := lk_b hf
  refine xe_callv0 (as := [xi v1]) (st := []) (h2 := h3) (d2 := d - 1) d16_2 ky16 ml51 st17 (by decide) cn17 rfl na17 (Nat.le_of_ble_eq_true rfl) (by omega) (kb_readFact _ _ _ hc2) ?_
  refine xs_iconst (v := 0) d16_5 (by decide) ?_
  refine xe_istore_n (v := (0 : Int32)) (ls2 := [(0, xr 3 (some 0)), (1, xi v1), (2, xi (0 : Int32))]) d16_6 mx16 (by decide) rfl rfl ?_
  exact f_RuleReader_readPart_l7_ok hD kb_readFact hf K0
noncomputable def f_RuleReader_readPart (cb_readFact : Int32 → xH → Option xH) (v1 : Int32) (h : xH) : Option xH := f_RuleReader_readPart_e cb_readFact v1 h
theorem f_RuleReader_readPart_ok {g : xG} {l : Launch} {d : Nat} {cb_readFact : Int32 → xH → Option xH} {v1 : Int32} {h : xH} {h1 : xH} (hD : 1 ≤ d) (kb_readFact : ∀ (a : Int32) (h h1 : xH), cb_readFact a h = some h1 → xC g l (d - 1) 17 [xr 3 (some 0), xi a] h none h1) (hf : f_RuleReader_readPart cb_readFact v1 h = some h1) : xC g l d 16 [xr 3 (some 0), xi v1] h none h1 :=
  xC_of2 (by decide) mx16 (Nat.le_of_ble_eq_true rfl) (f_RuleReader_readPart_e_ok hD kb_readFact hf (fun _ e => ⟨rfl, e⟩))
theorem d20_0 : decode (xcode 20) 0 = .ok (.aload_n 0, 1) := by decide +kernel
theorem d20_1 : decode (xcode 20) 1 = .ok (.getfield 9, 3) := by decide +kernel
theorem d20_4 : decode (xcode 20) 4 = .ok (.getfield 88, 3) := by decide +kernel
theorem d20_7 : decode (xcode 20) 7 = .ok (.iconst 3, 1) := by decide +kernel
theorem d20_8 : decode (xcode 20) 8 = .ok (.if_icmp .eq 5, 3) := by decide +kernel
theorem d20_11 : decode (xcode 20) 11 = .ok (.iconst (-1), 1) := by decide +kernel
theorem d20_12 : decode (xcode 20) 12 = .ok (.ireturn, 1) := by decide +kernel
theorem d20_13 : decode (xcode 20) 13 = .ok (.aload_n 0, 1) := by decide +kernel
theorem d20_14 : decode (xcode 20) 14 = .ok (.getfield 9, 3) := by decide +kernel
theorem d20_17 : decode (xcode 20) 17 = .ok (.getfield 91, 3) := by decide +kernel
theorem d20_20 : decode (xcode 20) 20 = .ok (.lookupswitch 67 #[(60, 52), (61, 58), (62, 64), (460, 55), (462, 61)], 52) := by decide +kernel
theorem d20_72 : decode (xcode 20) 72 = .ok (.bipush 17, 2) := by decide +kernel
theorem d20_74 : decode (xcode 20) 74 = .ok (.ireturn, 1) := by decide +kernel
theorem d20_75 : decode (xcode 20) 75 = .ok (.bipush 18, 2) := by decide +kernel
theorem d20_77 : decode (xcode 20) 77 = .ok (.ireturn, 1) := by decide +kernel
theorem d20_78 : decode (xcode 20) 78 = .ok (.bipush 19, 2) := by decide +kernel
theorem d20_80 : decode (xcode 20) 80 = .ok (.ireturn, 1) := by decide +kernel
theorem d20_81 : decode (xcode 20) 81 = .ok (.bipush 20, 2) := by decide +kernel
theorem d20_83 : decode (xcode 20) 83 = .ok (.ireturn, 1) := by decide +kernel
theorem d20_84 : decode (xcode 20) 84 = .ok (.bipush 21, 2) := by decide +kernel
theorem d20_86 : decode (xcode 20) 86 = .ok (.ireturn, 1) := by decide +kernel
theorem d20_87 : decode (xcode 20) 87 = .ok (.iconst (-1), 1) := by decide +kernel
theorem d20_88 : decode (xcode 20) 88 = .ok (.ireturn, 1) := by decide +kernel
noncomputable def f_RuleReader_comparisonHere_e (h : xH) : Option Int32 :=
  if (h.1 7 7 0) = (3 : Int32) then (
  if (h.1 7 8 0) = (60 : Int32) then (
  some ((17 : Int32))) else (
  if (h.1 7 8 0) = (61 : Int32) then (
  some ((19 : Int32))) else (
  if (h.1 7 8 0) = (62 : Int32) then (
  some ((21 : Int32))) else (
  if (h.1 7 8 0) = (460 : Int32) then (
  some ((18 : Int32))) else (
  if (h.1 7 8 0) = (462 : Int32) then (
  some ((20 : Int32))) else (
  some ((-1 : Int32)))))))) else (
  some ((-1 : Int32)))
set_option maxHeartbeats 4000000 in
set_option maxRecDepth 100000 in
theorem f_RuleReader_comparisonHere_e_ok {g : xG} {l : Launch} {d : Nat} {h : xH} {o : Int32} {R : Option xV} (hD : 0 ≤ d) (hf : f_RuleReader_comparisonHere_e h = some o) (K0 : ∀ (a : Int32), o = a → R = some (xi a)) : xEv g l d 20 0 [(0, xr 3 (some 0))] [] h R h := by
  unfold f_RuleReader_comparisonHere_e at hf
  refine xs_aload_n d20_0 rfl ?_
  refine xe_getc (j := 0) d20_1 ky20 fl58 fk3_0 rfl ?_
  refine xe_geti d20_4 ky20 fl9 fk7_7 ?_
  refine xs_iconst (v := 3) d20_7 (by decide) ?_
  rcases lk_if hf with ⟨hc1, hf⟩ | ⟨hc1, hf⟩
  · refine xs_icmp_eq (tgt := 13) d20_8 (by decide) (fun _ => ?_) (fun hn => absurd hc1 hn)
    refine xs_aload_n d20_13 rfl ?_
    refine xe_getc (j := 0) d20_14 ky20 fl58 fk3_0 rfl ?_
    refine xe_geti d20_17 ky20 fl12 fk7_8 ?_
    rcases lk_if hf with ⟨hc2, hf⟩ | ⟨hc2, hf⟩
    · refine xs_lookup (tgt := 72) d20_20 (by decide) (by rw [hc2]; first | done | rfl) (by decide) ?_
      refine xs_bipush (v := 17) d20_72 (by decide) ?_
      obtain eR := K0 _ (Option.some.inj hf).symm
      subst eR
      exact xs_iret d20_74 rt20
    · skip
      rcases lk_if hf with ⟨hc3, hf⟩ | ⟨hc3, hf⟩
      · refine xs_lookup (tgt := 78) d20_20 (by decide) (by rw [hc3]; first | done | rfl) (by decide) ?_
        refine xs_bipush (v := 19) d20_78 (by decide) ?_
        obtain eR := K0 _ (Option.some.inj hf).symm
        subst eR
        exact xs_iret d20_80 rt20
      · skip
        rcases lk_if hf with ⟨hc4, hf⟩ | ⟨hc4, hf⟩
        · refine xs_lookup (tgt := 84) d20_20 (by decide) (by rw [hc4]; first | done | rfl) (by decide) ?_
          refine xs_bipush (v := 21) d20_84 (by decide) ?_
          obtain eR := K0 _ (Option.some.inj hf).symm
          subst eR
          exact xs_iret d20_86 rt20
        · skip
          rcases lk_if hf with ⟨hc5, hf⟩ | ⟨hc5, hf⟩
          · refine xs_lookup (tgt := 75) d20_20 (by decide) (by rw [hc5]; first | done | rfl) (by decide) ?_
            refine xs_bipush (v := 18) d20_75 (by decide) ?_
            obtain eR := K0 _ (Option.some.inj hf).symm
            subst eR
            exact xs_iret d20_77 rt20
          · skip
            rcases lk_if hf with ⟨hc6, hf⟩ | ⟨hc6, hf⟩
            · refine xs_lookup (tgt := 81) d20_20 (by decide) (by rw [hc6]; first | done | rfl) (by decide) ?_
              refine xs_bipush (v := 20) d20_81 (by decide) ?_
              obtain eR := K0 _ (Option.some.inj hf).symm
              subst eR
              exact xs_iret d20_83 rt20
            · skip
              refine xs_lookup (tgt := 87) d20_20 (by decide) (xlk_out (l := [(60, 52), (61, 58), (62, 64), (460, 55), (462, 61)]) (List.forall_mem_cons.mpr ⟨xlk_ne (by decide) hc2, List.forall_mem_cons.mpr ⟨xlk_ne (by decide) hc3, List.forall_mem_cons.mpr ⟨xlk_ne (by decide) hc4, List.forall_mem_cons.mpr ⟨xlk_ne (by decide) hc5, List.forall_mem_cons.mpr ⟨xlk_ne (by decide) hc6, fun _ h => absurd h List.not_mem_nil⟩⟩⟩⟩⟩)) (by decide) ?_
              refine xs_iconst (v := -1) d20_87 (by decide) ?_
              obtain eR := K0 _ (Option.some.inj hf).symm
              subst eR
              exact xs_iret d20_88 rt20
  · refine xs_icmp_eq (tgt := 13) d20_8 (by decide) (fun hp => absurd hp hc1) (fun _ => ?_)
    refine xs_iconst (v := -1) d20_11 (by decide) ?_
    obtain eR := K0 _ (Option.some.inj hf).symm
    subst eR
    exact xs_iret d20_12 rt20
noncomputable def f_RuleReader_comparisonHere (h : xH) : Option Int32 := f_RuleReader_comparisonHere_e h
theorem f_RuleReader_comparisonHere_ok {g : xG} {l : Launch} {d : Nat} {h : xH} {r : Int32} (hD : 0 ≤ d) (hf : f_RuleReader_comparisonHere h = some r) : xC g l d 20 [xr 3 (some 0)] h (some (xi r)) h :=
  xC_of2 (by decide) mx20 (Nat.le_of_ble_eq_true rfl) (f_RuleReader_comparisonHere_e_ok hD hf (fun _ e => by rw [e]))
theorem d19_0 : decode (xcode 19) 0 = .ok (.aload_n 0, 1) := by decide +kernel
theorem d19_1 : decode (xcode 19) 1 = .ok (.invokevirtual 57, 3) := by decide +kernel
theorem d19_4 : decode (xcode 19) 4 = .ok (.aload_n 0, 1) := by decide +kernel
theorem d19_5 : decode (xcode 19) 5 = .ok (.getfield 9, 3) := by decide +kernel
theorem d19_8 : decode (xcode 19) 8 = .ok (.invokevirtual 60, 3) := by decide +kernel
theorem d19_11 : decode (xcode 19) 11 = .ok (.ifCond .ne 4, 3) := by decide +kernel
theorem d19_14 : decode (xcode 19) 14 = .ok (.return_, 1) := by decide +kernel
theorem d19_15 : decode (xcode 19) 15 = .ok (.aload_n 0, 1) := by decide +kernel
theorem d19_16 : decode (xcode 19) 16 = .ok (.invokevirtual 84, 3) := by decide +kernel
theorem d19_19 : decode (xcode 19) 19 = .ok (.istore_n 1, 1) := by decide +kernel
theorem d19_20 : decode (xcode 19) 20 = .ok (.iload_n 1, 1) := by decide +kernel
theorem d19_21 : decode (xcode 19) 21 = .ok (.iconst (-1), 1) := by decide +kernel
theorem d19_22 : decode (xcode 19) 22 = .ok (.if_icmp .ne 12, 3) := by decide +kernel
theorem d19_25 : decode (xcode 19) 25 = .ok (.aload_n 0, 1) := by decide +kernel
theorem d19_26 : decode (xcode 19) 26 = .ok (.getfield 9, 3) := by decide +kernel
theorem d19_29 : decode (xcode 19) 29 = .ok (.iconst 0, 1) := by decide +kernel
theorem d19_30 : decode (xcode 19) 30 = .ok (.invokevirtual 50, 3) := by decide +kernel
theorem d19_33 : decode (xcode 19) 33 = .ok (.return_, 1) := by decide +kernel
theorem d19_34 : decode (xcode 19) 34 = .ok (.aload_n 0, 1) := by decide +kernel
theorem d19_35 : decode (xcode 19) 35 = .ok (.getfield 28, 3) := by decide +kernel
theorem d19_38 : decode (xcode 19) 38 = .ok (.bipush 60, 2) := by decide +kernel
theorem d19_40 : decode (xcode 19) 40 = .ok (.if_icmp .lt 11, 3) := by decide +kernel
theorem d19_43 : decode (xcode 19) 43 = .ok (.aload_n 0, 1) := by decide +kernel
theorem d19_44 : decode (xcode 19) 44 = .ok (.getfield 9, 3) := by decide +kernel
theorem d19_47 : decode (xcode 19) 47 = .ok (.iconst 3, 1) := by decide +kernel
theorem d19_48 : decode (xcode 19) 48 = .ok (.invokevirtual 50, 3) := by decide +kernel
theorem d19_51 : decode (xcode 19) 51 = .ok (.aload_n 0, 1) := by decide +kernel
theorem d19_52 : decode (xcode 19) 52 = .ok (.dup, 1) := by decide +kernel
theorem d19_53 : decode (xcode 19) 53 = .ok (.getfield 28, 3) := by decide +kernel
theorem d19_56 : decode (xcode 19) 56 = .ok (.iconst 1, 1) := by decide +kernel
theorem d19_57 : decode (xcode 19) 57 = .ok (.iadd, 1) := by decide +kernel
theorem d19_58 : decode (xcode 19) 58 = .ok (.putfield 28, 3) := by decide +kernel
theorem d19_61 : decode (xcode 19) 61 = .ok (.aload_n 0, 1) := by decide +kernel
theorem d19_62 : decode (xcode 19) 62 = .ok (.getfield 9, 3) := by decide +kernel
theorem d19_65 : decode (xcode 19) 65 = .ok (.invokevirtual 54, 3) := by decide +kernel
theorem d19_68 : decode (xcode 19) 68 = .ok (.aload_n 0, 1) := by decide +kernel
theorem d19_69 : decode (xcode 19) 69 = .ok (.invokevirtual 57, 3) := by decide +kernel
theorem d19_72 : decode (xcode 19) 72 = .ok (.aload_n 0, 1) := by decide +kernel
theorem d19_73 : decode (xcode 19) 73 = .ok (.getfield 15, 3) := by decide +kernel
theorem d19_76 : decode (xcode 19) 76 = .ok (.iload_n 1, 1) := by decide +kernel
theorem d19_77 : decode (xcode 19) 77 = .ok (.invokevirtual 66, 3) := by decide +kernel
theorem d19_80 : decode (xcode 19) 80 = .ok (.return_, 1) := by decide +kernel
noncomputable def f_RuleReader_readComparison_b51 (v1 : Int32) (h : xH) : Option xH :=
  xlet (xsI h 3 3 0 ((h.1 3 3 0) + (1 : Int32))) fun h14 =>
  (f_Tape_goOn h14).bind fun h17 =>
  (f_RuleReader_readSum h17).bind fun h20 =>
  (h20.2.2.1 3 1 0).bind fun i921 =>
  (f_Rule_add i921 v1 h20).bind fun h24 =>
  some (h24)
set_option maxHeartbeats 4000000 in
set_option maxRecDepth 100000 in
theorem f_RuleReader_readComparison_b51_ok {g : xG} {l : Launch} {d : Nat} {v1 : Int32} {h : xH} {o : xH} {R : Option xV} {H' : xH} (hD : 4 ≤ d) (hf : f_RuleReader_readComparison_b51 v1 h = some o) (K0 : ∀ (h1 : xH), o = h1 → R = none ∧ H' = h1) : xEv g l d 19 51 [(0, xr 3 (some 0)), (1, xi v1)] [] h R H' := by
  unfold f_RuleReader_readComparison_b51 at hf
  refine xs_aload_n d19_51 rfl ?_
  refine xs_dup d19_52 rfl ?_
  refine xe_geti d19_53 ky19 fl61 fk3_3 ?_
  refine xs_iconst (v := 1) d19_56 (by decide) ?_
  refine xs_iadd d19_57 ?_
  obtain ⟨h14, eh14, hf⟩ := lk_let hf
  refine xe_puti d19_58 ky19 fl61 fk3_3 ft3_3 eh14 ?_
  refine xs_aload_n d19_61 rfl ?_
  refine xe_getc (j := 0) d19_62 ky19 fl58 fk3_0 rfl ?_
  obtain ⟨h17, hc16, hf⟩ := lk_b hf
  refine xe_callv0 (as := []) (st := []) (h2 := h17) (d2 := d - 1) d19_65 ky19 ml42 st68 (by decide) cn68 rfl na68 (Nat.le_of_ble_eq_true rfl) (by omega) (f_Tape_goOn_ok (by omega) hc16) ?_
  refine xs_aload_n d19_68 rfl ?_
  obtain ⟨h20, hc19, hf⟩ := lk_b hf
  refine xe_callv0 (as := []) (st := []) (h2 := h20) (d2 := d - 1) d19_69 ky19 ml43 st21 (by decide) cn21 rfl na21 (Nat.le_of_ble_eq_true rfl) (by omega) (f_RuleReader_readSum_ok (by omega) hc19) ?_
  refine xs_aload_n d19_72 rfl ?_
  refine xe_getd d19_73 ky19 fl59 fk3_1 ?_
  refine xs_iload_n d19_76 rfl ?_
  obtain ⟨i921, ei921, hf⟩ := lk_b hf
  rw [ei921]
  obtain ⟨h24, hc23, hf⟩ := lk_b hf
  refine xe_callv0 (as := [xi v1]) (st := []) (h2 := h24) (d2 := d - 1) d19_77 ky19 ml46 st9 (by decide) cn9 rfl na9 (Nat.le_of_ble_eq_true rfl) (by omega) (f_Rule_add_ok (by omega) hc23) ?_
  obtain ⟨eR, eH⟩ := K0 _ (Option.some.inj hf).symm
  subst eR; subst eH
  exact xs_vret d19_80 rt19
noncomputable def f_RuleReader_readComparison_e (h : xH) : Option xH :=
  (f_RuleReader_readSum h).bind fun h3 =>
  (f_Tape_isWell h3).bind fun r4 =>
  if r4 = (0 : Int32) then (
  some (h3)) else (
  (f_RuleReader_comparisonHere h3).bind fun r7 =>
  if r7 = (-1 : Int32) then (
  (f_Tape_fail (0 : Int32) h3).bind fun h12 =>
  some (h12)) else (
  if (h3.1 3 3 0) < (60 : Int32) then (
  f_RuleReader_readComparison_b51 r7 h3) else (
  (f_Tape_fail (3 : Int32) h3).bind fun h27 =>
  f_RuleReader_readComparison_b51 r7 h27)))
set_option maxHeartbeats 4000000 in
set_option maxRecDepth 100000 in
theorem f_RuleReader_readComparison_e_ok {g : xG} {l : Launch} {d : Nat} {h : xH} {o : xH} {R : Option xV} {H' : xH} (hD : 4 ≤ d) (hf : f_RuleReader_readComparison_e h = some o) (K0 : ∀ (h1 : xH), o = h1 → R = none ∧ H' = h1) : xEv g l d 19 0 [(0, xr 3 (some 0))] [] h R H' := by
  unfold f_RuleReader_readComparison_e at hf
  refine xs_aload_n d19_0 rfl ?_
  obtain ⟨h3, hc2, hf⟩ := lk_b hf
  refine xe_callv0 (as := []) (st := []) (h2 := h3) (d2 := d - 1) d19_1 ky19 ml43 st21 (by decide) cn21 rfl na21 (Nat.le_of_ble_eq_true rfl) (by omega) (f_RuleReader_readSum_ok (by omega) hc2) ?_
  refine xs_aload_n d19_4 rfl ?_
  refine xe_getc (j := 0) d19_5 ky19 fl58 fk3_0 rfl ?_
  obtain ⟨r4, hc5, hf⟩ := lk_b hf
  refine xe_callv1 (as := []) (st := []) (h2 := h3) (d2 := d - 1) d19_8 ky19 ml47 st69 (by decide) cn69 rfl na69 (Nat.le_of_ble_eq_true rfl) (by omega) (f_Tape_isWell_ok (by omega) hc5) ?_
  rcases lk_if hf with ⟨hc6, hf⟩ | ⟨hc6, hf⟩
  · refine xs_if_ne (tgt := 15) d19_11 (by decide) (fun _ => ?_) (fun hn => absurd hc6 hn)
    obtain ⟨eR, eH⟩ := K0 _ (Option.some.inj hf).symm
    subst eR; subst eH
    exact xs_vret d19_14 rt19
  · refine xs_if_ne (tgt := 15) d19_11 (by decide) (fun hp => absurd hp hc6) (fun _ => ?_)
    refine xs_aload_n d19_15 rfl ?_
    obtain ⟨r7, hc8, hf⟩ := lk_b hf
    refine xe_callv1 (as := []) (st := []) (h2 := h3) (d2 := d - 1) d19_16 ky19 ml53 st20 (by decide) cn20 rfl na20 (Nat.le_of_ble_eq_true rfl) (by omega) (f_RuleReader_comparisonHere_ok (by omega) hc8) ?_
    refine xe_istore_n (v := r7) (ls2 := [(0, xr 3 (some 0)), (1, xi r7)]) d19_19 mx19 (by decide) rfl rfl ?_
    refine xs_iload_n d19_20 rfl ?_
    refine xs_iconst (v := -1) d19_21 (by decide) ?_
    rcases lk_if hf with ⟨hc9, hf⟩ | ⟨hc9, hf⟩
    · refine xs_icmp_ne (tgt := 34) d19_22 (by decide) (fun _ => ?_) (fun hn => absurd hc9 hn)
      refine xs_aload_n d19_25 rfl ?_
      refine xe_getc (j := 0) d19_26 ky19 fl58 fk3_0 rfl ?_
      refine xs_iconst (v := 0) d19_29 (by decide) ?_
      obtain ⟨h12, hc11, hf⟩ := lk_b hf
      refine xe_callv0 (as := [xi (0 : Int32)]) (st := []) (h2 := h12) (d2 := d - 1) d19_30 ky19 ml41 st70 (by decide) cn70 rfl na70 (Nat.le_of_ble_eq_true rfl) (by omega) (f_Tape_fail_ok (by omega) hc11) ?_
      obtain ⟨eR, eH⟩ := K0 _ (Option.some.inj hf).symm
      subst eR; subst eH
      exact xs_vret d19_33 rt19
    · refine xs_icmp_ne (tgt := 34) d19_22 (by decide) (fun hp => absurd hp hc9) (fun _ => ?_)
      refine xs_aload_n d19_34 rfl ?_
      refine xe_geti d19_35 ky19 fl61 fk3_3 ?_
      refine xs_bipush (v := 60) d19_38 (by decide) ?_
      rcases lk_if hf with ⟨hc13, hf⟩ | ⟨hc13, hf⟩
      · refine xs_icmp_lt (tgt := 51) d19_40 (by decide) (fun _ => ?_) (fun hn => absurd hc13 hn)
        exact f_RuleReader_readComparison_b51_ok hD hf K0
      · refine xs_icmp_lt (tgt := 51) d19_40 (by decide) (fun hp => absurd hp hc13) (fun _ => ?_)
        refine xs_aload_n d19_43 rfl ?_
        refine xe_getc (j := 0) d19_44 ky19 fl58 fk3_0 rfl ?_
        refine xs_iconst (v := 3) d19_47 (by decide) ?_
        obtain ⟨h27, hc26, hf⟩ := lk_b hf
        refine xe_callv0 (as := [xi (3 : Int32)]) (st := []) (h2 := h27) (d2 := d - 1) d19_48 ky19 ml41 st70 (by decide) cn70 rfl na70 (Nat.le_of_ble_eq_true rfl) (by omega) (f_Tape_fail_ok (by omega) hc26) ?_
        exact f_RuleReader_readComparison_b51_ok hD hf K0
noncomputable def f_RuleReader_readComparison (h : xH) : Option xH := f_RuleReader_readComparison_e h
theorem f_RuleReader_readComparison_ok {g : xG} {l : Launch} {d : Nat} {h : xH} {h1 : xH} (hD : 4 ≤ d) (hf : f_RuleReader_readComparison h = some h1) : xC g l d 19 [xr 3 (some 0)] h none h1 :=
  xC_of2 (by decide) mx19 (Nat.le_of_ble_eq_true rfl) (f_RuleReader_readComparison_e_ok hD hf (fun _ e => ⟨rfl, e⟩))
theorem d18_0 : decode (xcode 18) 0 = .ok (.aload_n 0, 1) := by decide +kernel
theorem d18_1 : decode (xcode 18) 1 = .ok (.getfield 9, 3) := by decide +kernel
theorem d18_4 : decode (xcode 18) 4 = .ok (.bipush 93, 2) := by decide +kernel
theorem d18_6 : decode (xcode 18) 6 = .ok (.invokevirtual 75, 3) := by decide +kernel
theorem d18_9 : decode (xcode 18) 9 = .ok (.ifCond .eq 13, 3) := by decide +kernel
theorem d18_12 : decode (xcode 18) 12 = .ok (.aload_n 0, 1) := by decide +kernel
theorem d18_13 : decode (xcode 18) 13 = .ok (.getfield 9, 3) := by decide +kernel
theorem d18_16 : decode (xcode 18) 16 = .ok (.invokevirtual 54, 3) := by decide +kernel
theorem d18_19 : decode (xcode 18) 19 = .ok (.goto 11, 3) := by decide +kernel
theorem d18_22 : decode (xcode 18) 22 = .ok (.aload_n 0, 1) := by decide +kernel
theorem d18_23 : decode (xcode 18) 23 = .ok (.getfield 9, 3) := by decide +kernel
theorem d18_26 : decode (xcode 18) 26 = .ok (.iconst 0, 1) := by decide +kernel
theorem d18_27 : decode (xcode 18) 27 = .ok (.invokevirtual 50, 3) := by decide +kernel
theorem d18_30 : decode (xcode 18) 30 = .ok (.return_, 1) := by decide +kernel
noncomputable def f_RuleReader_readClosing_e (h : xH) : Option xH :=
  (f_Tape_isSign (93 : Int32) h).bind fun r1 =>
  if r1 = (0 : Int32) then (
  (f_Tape_fail (0 : Int32) h).bind fun h6 =>
  some (h6)) else (
  (f_Tape_goOn h).bind fun h9 =>
  some (h9))
set_option maxHeartbeats 4000000 in
set_option maxRecDepth 100000 in
theorem f_RuleReader_readClosing_e_ok {g : xG} {l : Launch} {d : Nat} {h : xH} {o : xH} {R : Option xV} {H' : xH} (hD : 1 ≤ d) (hf : f_RuleReader_readClosing_e h = some o) (K0 : ∀ (h1 : xH), o = h1 → R = none ∧ H' = h1) : xEv g l d 18 0 [(0, xr 3 (some 0))] [] h R H' := by
  unfold f_RuleReader_readClosing_e at hf
  refine xs_aload_n d18_0 rfl ?_
  refine xe_getc (j := 0) d18_1 ky18 fl58 fk3_0 rfl ?_
  refine xs_bipush (v := 93) d18_4 (by decide) ?_
  obtain ⟨r1, hc2, hf⟩ := lk_b hf
  refine xe_callv1 (as := [xi (93 : Int32)]) (st := []) (h2 := h) (d2 := d - 1) d18_6 ky18 ml48 st71 (by decide) cn71 rfl na71 (Nat.le_of_ble_eq_true rfl) (by omega) (f_Tape_isSign_ok (by omega) hc2) ?_
  rcases lk_if hf with ⟨hc3, hf⟩ | ⟨hc3, hf⟩
  · refine xs_if_eq (tgt := 22) d18_9 (by decide) (fun _ => ?_) (fun hn => absurd hc3 hn)
    refine xs_aload_n d18_22 rfl ?_
    refine xe_getc (j := 0) d18_23 ky18 fl58 fk3_0 rfl ?_
    refine xs_iconst (v := 0) d18_26 (by decide) ?_
    obtain ⟨h6, hc5, hf⟩ := lk_b hf
    refine xe_callv0 (as := [xi (0 : Int32)]) (st := []) (h2 := h6) (d2 := d - 1) d18_27 ky18 ml41 st70 (by decide) cn70 rfl na70 (Nat.le_of_ble_eq_true rfl) (by omega) (f_Tape_fail_ok (by omega) hc5) ?_
    obtain ⟨eR, eH⟩ := K0 _ (Option.some.inj hf).symm
    subst eR; subst eH
    exact xs_vret d18_30 rt18
  · refine xs_if_eq (tgt := 22) d18_9 (by decide) (fun hp => absurd hp hc3) (fun _ => ?_)
    refine xs_aload_n d18_12 rfl ?_
    refine xe_getc (j := 0) d18_13 ky18 fl58 fk3_0 rfl ?_
    obtain ⟨h9, hc8, hf⟩ := lk_b hf
    refine xe_callv0 (as := []) (st := []) (h2 := h9) (d2 := d - 1) d18_16 ky18 ml42 st68 (by decide) cn68 rfl na68 (Nat.le_of_ble_eq_true rfl) (by omega) (f_Tape_goOn_ok (by omega) hc8) ?_
    refine xs_goto (tgt := 30) d18_19 (by decide) ?_
    obtain ⟨eR, eH⟩ := K0 _ (Option.some.inj hf).symm
    subst eR; subst eH
    exact xs_vret d18_30 rt18
noncomputable def f_RuleReader_readClosing (h : xH) : Option xH := f_RuleReader_readClosing_e h
theorem f_RuleReader_readClosing_ok {g : xG} {l : Launch} {d : Nat} {h : xH} {h1 : xH} (hD : 1 ≤ d) (hf : f_RuleReader_readClosing h = some h1) : xC g l d 18 [xr 3 (some 0)] h none h1 :=
  xC_of2 (by decide) mx18 (Nat.le_of_ble_eq_true rfl) (f_RuleReader_readClosing_e_ok hD hf (fun _ e => ⟨rfl, e⟩))
theorem d17_0 : decode (xcode 17) 0 = .ok (.aload_n 0, 1) := by decide +kernel
theorem d17_1 : decode (xcode 17) 1 = .ok (.getfield 9, 3) := by decide +kernel
theorem d17_4 : decode (xcode 17) 4 = .ok (.bipush 19, 2) := by decide +kernel
theorem d17_6 : decode (xcode 17) 6 = .ok (.invokevirtual 46, 3) := by decide +kernel
theorem d17_9 : decode (xcode 17) 9 = .ok (.istore_n 2, 1) := by decide +kernel
theorem d17_10 : decode (xcode 17) 10 = .ok (.iload_n 2, 1) := by decide +kernel
theorem d17_11 : decode (xcode 17) 11 = .ok (.ifCond .ne 20, 3) := by decide +kernel
theorem d17_14 : decode (xcode 17) 14 = .ok (.aload_n 0, 1) := by decide +kernel
theorem d17_15 : decode (xcode 17) 15 = .ok (.getfield 9, 3) := by decide +kernel
theorem d17_18 : decode (xcode 17) 18 = .ok (.bipush 91, 2) := by decide +kernel
theorem d17_20 : decode (xcode 17) 20 = .ok (.invokevirtual 75, 3) := by decide +kernel
theorem d17_23 : decode (xcode 17) 23 = .ok (.ifCond .ne 8, 3) := by decide +kernel
theorem d17_26 : decode (xcode 17) 26 = .ok (.aload_n 0, 1) := by decide +kernel
theorem d17_27 : decode (xcode 17) 27 = .ok (.invokevirtual 78, 3) := by decide +kernel
theorem d17_30 : decode (xcode 17) 30 = .ok (.return_, 1) := by decide +kernel
theorem d17_31 : decode (xcode 17) 31 = .ok (.iload_n 1, 1) := by decide +kernel
theorem d17_32 : decode (xcode 17) 32 = .ok (.bipush 10, 2) := by decide +kernel
theorem d17_34 : decode (xcode 17) 34 = .ok (.if_icmp .lt 12, 3) := by decide +kernel
theorem d17_37 : decode (xcode 17) 37 = .ok (.aload_n 0, 1) := by decide +kernel
theorem d17_38 : decode (xcode 17) 38 = .ok (.getfield 9, 3) := by decide +kernel
theorem d17_41 : decode (xcode 17) 41 = .ok (.iconst 2, 1) := by decide +kernel
theorem d17_42 : decode (xcode 17) 42 = .ok (.invokevirtual 50, 3) := by decide +kernel
theorem d17_45 : decode (xcode 17) 45 = .ok (.return_, 1) := by decide +kernel
theorem d17_46 : decode (xcode 17) 46 = .ok (.aload_n 0, 1) := by decide +kernel
theorem d17_47 : decode (xcode 17) 47 = .ok (.getfield 9, 3) := by decide +kernel
theorem d17_50 : decode (xcode 17) 50 = .ok (.invokevirtual 54, 3) := by decide +kernel
theorem d17_53 : decode (xcode 17) 53 = .ok (.iload_n 2, 1) := by decide +kernel
theorem d17_54 : decode (xcode 17) 54 = .ok (.ifCond .eq 22, 3) := by decide +kernel
theorem d17_57 : decode (xcode 17) 57 = .ok (.aload_n 0, 1) := by decide +kernel
theorem d17_58 : decode (xcode 17) 58 = .ok (.iload_n 1, 1) := by decide +kernel
theorem d17_59 : decode (xcode 17) 59 = .ok (.iconst 1, 1) := by decide +kernel
theorem d17_60 : decode (xcode 17) 60 = .ok (.iadd, 1) := by decide +kernel
theorem d17_61 : decode (xcode 17) 61 = .ok (.invokevirtual 72, 3) := by decide +kernel
theorem d17_64 : decode (xcode 17) 64 = .ok (.aload_n 0, 1) := by decide +kernel
theorem d17_65 : decode (xcode 17) 65 = .ok (.getfield 15, 3) := by decide +kernel
theorem d17_68 : decode (xcode 17) 68 = .ok (.bipush 24, 2) := by decide +kernel
theorem d17_70 : decode (xcode 17) 70 = .ok (.invokevirtual 66, 3) := by decide +kernel
theorem d17_73 : decode (xcode 17) 73 = .ok (.goto 14, 3) := by decide +kernel
theorem d17_76 : decode (xcode 17) 76 = .ok (.aload_n 0, 1) := by decide +kernel
theorem d17_77 : decode (xcode 17) 77 = .ok (.iload_n 1, 1) := by decide +kernel
theorem d17_78 : decode (xcode 17) 78 = .ok (.iconst 1, 1) := by decide +kernel
theorem d17_79 : decode (xcode 17) 79 = .ok (.iadd, 1) := by decide +kernel
theorem d17_80 : decode (xcode 17) 80 = .ok (.invokevirtual 63, 3) := by decide +kernel
theorem d17_83 : decode (xcode 17) 83 = .ok (.aload_n 0, 1) := by decide +kernel
theorem d17_84 : decode (xcode 17) 84 = .ok (.invokevirtual 81, 3) := by decide +kernel
theorem d17_87 : decode (xcode 17) 87 = .ok (.return_, 1) := by decide +kernel
noncomputable def f_RuleReader_readFact_b31 (cb_readTest : Int32 → xH → Option xH) (cb_readFact : Int32 → xH → Option xH) (v1 : Int32) (v2 : Int32) (h : xH) : Option xH :=
  if v1 < (10 : Int32) then (
  (f_Tape_goOn h).bind fun h13 =>
  if v2 = (0 : Int32) then (
  (cb_readTest (v1 + (1 : Int32)) h13).bind fun h17 =>
  (f_RuleReader_readClosing h17).bind fun h20 =>
  some (h20)) else (
  (cb_readFact (v1 + (1 : Int32)) h13).bind fun h23 =>
  (h23.2.2.1 3 1 0).bind fun i924 =>
  (f_Rule_add i924 (24 : Int32) h23).bind fun h27 =>
  some (h27))) else (
  (f_Tape_fail (2 : Int32) h).bind fun h30 =>
  some (h30))
set_option maxHeartbeats 4000000 in
set_option maxRecDepth 100000 in
theorem f_RuleReader_readFact_b31_ok {g : xG} {l : Launch} {d : Nat} {cb_readTest : Int32 → xH → Option xH} {cb_readFact : Int32 → xH → Option xH} {v1 : Int32} {v2 : Int32} {h : xH} {o : xH} {R : Option xV} {H' : xH} (hD : 5 ≤ d) (kb_readTest : ∀ (a : Int32) (h h1 : xH), cb_readTest a h = some h1 → xC g l (d - 1) 15 [xr 3 (some 0), xi a] h none h1) (kb_readFact : ∀ (a : Int32) (h h1 : xH), cb_readFact a h = some h1 → xC g l (d - 1) 17 [xr 3 (some 0), xi a] h none h1) (hf : f_RuleReader_readFact_b31 cb_readTest cb_readFact v1 v2 h = some o) (K0 : ∀ (h1 : xH), o = h1 → R = none ∧ H' = h1) : xEv g l d 17 31 [(0, xr 3 (some 0)), (1, xi v1), (2, xi v2)] [] h R H' := by
  unfold f_RuleReader_readFact_b31 at hf
  refine xs_iload_n d17_31 rfl ?_
  refine xs_bipush (v := 10) d17_32 (by decide) ?_
  rcases lk_if hf with ⟨hc10, hf⟩ | ⟨hc10, hf⟩
  · refine xs_icmp_lt (tgt := 46) d17_34 (by decide) (fun _ => ?_) (fun hn => absurd hc10 hn)
    refine xs_aload_n d17_46 rfl ?_
    refine xe_getc (j := 0) d17_47 ky17 fl58 fk3_0 rfl ?_
    obtain ⟨h13, hc12, hf⟩ := lk_b hf
    refine xe_callv0 (as := []) (st := []) (h2 := h13) (d2 := d - 1) d17_50 ky17 ml42 st68 (by decide) cn68 rfl na68 (Nat.le_of_ble_eq_true rfl) (by omega) (f_Tape_goOn_ok (by omega) hc12) ?_
    refine xs_iload_n d17_53 rfl ?_
    rcases lk_if hf with ⟨hc14, hf⟩ | ⟨hc14, hf⟩
    · refine xs_if_eq (tgt := 76) d17_54 (by decide) (fun _ => ?_) (fun hn => absurd hc14 hn)
      refine xs_aload_n d17_76 rfl ?_
      refine xs_iload_n d17_77 rfl ?_
      refine xs_iconst (v := 1) d17_78 (by decide) ?_
      refine xs_iadd d17_79 ?_
      obtain ⟨h17, hc16, hf⟩ := lk_b hf
      refine xe_callv0 (as := [xi (v1 + (1 : Int32))]) (st := []) (h2 := h17) (d2 := d - 1) d17_80 ky17 ml49 st15 (by decide) cn15 rfl na15 (Nat.le_of_ble_eq_true rfl) (by omega) (kb_readTest _ _ _ hc16) ?_
      refine xs_aload_n d17_83 rfl ?_
      obtain ⟨h20, hc19, hf⟩ := lk_b hf
      refine xe_callv0 (as := []) (st := []) (h2 := h20) (d2 := d - 1) d17_84 ky17 ml54 st18 (by decide) cn18 rfl na18 (Nat.le_of_ble_eq_true rfl) (by omega) (f_RuleReader_readClosing_ok (by omega) hc19) ?_
      obtain ⟨eR, eH⟩ := K0 _ (Option.some.inj hf).symm
      subst eR; subst eH
      exact xs_vret d17_87 rt17
    · refine xs_if_eq (tgt := 76) d17_54 (by decide) (fun hp => absurd hp hc14) (fun _ => ?_)
      refine xs_aload_n d17_57 rfl ?_
      refine xs_iload_n d17_58 rfl ?_
      refine xs_iconst (v := 1) d17_59 (by decide) ?_
      refine xs_iadd d17_60 ?_
      obtain ⟨h23, hc22, hf⟩ := lk_b hf
      refine xe_callv0 (as := [xi (v1 + (1 : Int32))]) (st := []) (h2 := h23) (d2 := d - 1) d17_61 ky17 ml51 st17 (by decide) cn17 rfl na17 (Nat.le_of_ble_eq_true rfl) (by omega) (kb_readFact _ _ _ hc22) ?_
      refine xs_aload_n d17_64 rfl ?_
      refine xe_getd d17_65 ky17 fl59 fk3_1 ?_
      refine xs_bipush (v := 24) d17_68 (by decide) ?_
      obtain ⟨i924, ei924, hf⟩ := lk_b hf
      rw [ei924]
      obtain ⟨h27, hc26, hf⟩ := lk_b hf
      refine xe_callv0 (as := [xi (24 : Int32)]) (st := []) (h2 := h27) (d2 := d - 1) d17_70 ky17 ml46 st9 (by decide) cn9 rfl na9 (Nat.le_of_ble_eq_true rfl) (by omega) (f_Rule_add_ok (by omega) hc26) ?_
      refine xs_goto (tgt := 87) d17_73 (by decide) ?_
      obtain ⟨eR, eH⟩ := K0 _ (Option.some.inj hf).symm
      subst eR; subst eH
      exact xs_vret d17_87 rt17
  · refine xs_icmp_lt (tgt := 46) d17_34 (by decide) (fun hp => absurd hp hc10) (fun _ => ?_)
    refine xs_aload_n d17_37 rfl ?_
    refine xe_getc (j := 0) d17_38 ky17 fl58 fk3_0 rfl ?_
    refine xs_iconst (v := 2) d17_41 (by decide) ?_
    obtain ⟨h30, hc29, hf⟩ := lk_b hf
    refine xe_callv0 (as := [xi (2 : Int32)]) (st := []) (h2 := h30) (d2 := d - 1) d17_42 ky17 ml41 st70 (by decide) cn70 rfl na70 (Nat.le_of_ble_eq_true rfl) (by omega) (f_Tape_fail_ok (by omega) hc29) ?_
    obtain ⟨eR, eH⟩ := K0 _ (Option.some.inj hf).symm
    subst eR; subst eH
    exact xs_vret d17_45 rt17
noncomputable def f_RuleReader_readFact_e (cb_readTest : Int32 → xH → Option xH) (cb_readFact : Int32 → xH → Option xH) (v1 : Int32) (h : xH) : Option xH :=
  (f_Tape_isWord (19 : Int32) h).bind fun r1 =>
  if r1 = (0 : Int32) then (
  (f_Tape_isSign (91 : Int32) h).bind fun r4 =>
  if r4 = (0 : Int32) then (
  (f_RuleReader_readComparison h).bind fun h9 =>
  some (h9)) else (
  f_RuleReader_readFact_b31 cb_readTest cb_readFact v1 r1 h)) else (
  f_RuleReader_readFact_b31 cb_readTest cb_readFact v1 r1 h)
set_option maxHeartbeats 4000000 in
set_option maxRecDepth 100000 in
theorem f_RuleReader_readFact_e_ok {g : xG} {l : Launch} {d : Nat} {cb_readTest : Int32 → xH → Option xH} {cb_readFact : Int32 → xH → Option xH} {v1 : Int32} {h : xH} {o : xH} {R : Option xV} {H' : xH} (hD : 5 ≤ d) (kb_readTest : ∀ (a : Int32) (h h1 : xH), cb_readTest a h = some h1 → xC g l (d - 1) 15 [xr 3 (some 0), xi a] h none h1) (kb_readFact : ∀ (a : Int32) (h h1 : xH), cb_readFact a h = some h1 → xC g l (d - 1) 17 [xr 3 (some 0), xi a] h none h1) (hf : f_RuleReader_readFact_e cb_readTest cb_readFact v1 h = some o) (K0 : ∀ (h1 : xH), o = h1 → R = none ∧ H' = h1) : xEv g l d 17 0 [(0, xr 3 (some 0)), (1, xi v1)] [] h R H' := by
  unfold f_RuleReader_readFact_e at hf
  refine xs_aload_n d17_0 rfl ?_
  refine xe_getc (j := 0) d17_1 ky17 fl58 fk3_0 rfl ?_
  refine xs_bipush (v := 19) d17_4 (by decide) ?_
  obtain ⟨r1, hc2, hf⟩ := lk_b hf
  refine xe_callv1 (as := [xi (19 : Int32)]) (st := []) (h2 := h) (d2 := d - 1) d17_6 ky17 ml40 st72 (by decide) cn72 rfl na72 (Nat.le_of_ble_eq_true rfl) (by omega) (f_Tape_isWord_ok (by omega) hc2) ?_
  refine xe_istore_n (v := r1) (ls2 := [(0, xr 3 (some 0)), (1, xi v1), (2, xi r1)]) d17_9 mx17 (by decide) rfl rfl ?_
  refine xs_iload_n d17_10 rfl ?_
  rcases lk_if hf with ⟨hc3, hf⟩ | ⟨hc3, hf⟩
  · refine xs_if_ne (tgt := 31) d17_11 (by decide) (fun _ => ?_) (fun hn => absurd hc3 hn)
    refine xs_aload_n d17_14 rfl ?_
    refine xe_getc (j := 0) d17_15 ky17 fl58 fk3_0 rfl ?_
    refine xs_bipush (v := 91) d17_18 (by decide) ?_
    obtain ⟨r4, hc5, hf⟩ := lk_b hf
    refine xe_callv1 (as := [xi (91 : Int32)]) (st := []) (h2 := h) (d2 := d - 1) d17_20 ky17 ml48 st71 (by decide) cn71 rfl na71 (Nat.le_of_ble_eq_true rfl) (by omega) (f_Tape_isSign_ok (by omega) hc5) ?_
    rcases lk_if hf with ⟨hc6, hf⟩ | ⟨hc6, hf⟩
    · refine xs_if_ne (tgt := 31) d17_23 (by decide) (fun _ => ?_) (fun hn => absurd hc6 hn)
      refine xs_aload_n d17_26 rfl ?_
      obtain ⟨h9, hc8, hf⟩ := lk_b hf
      refine xe_callv0 (as := []) (st := []) (h2 := h9) (d2 := d - 1) d17_27 ky17 ml52 st19 (by decide) cn19 rfl na19 (Nat.le_of_ble_eq_true rfl) (by omega) (f_RuleReader_readComparison_ok (by omega) hc8) ?_
      obtain ⟨eR, eH⟩ := K0 _ (Option.some.inj hf).symm
      subst eR; subst eH
      exact xs_vret d17_30 rt17
    · refine xs_if_ne (tgt := 31) d17_23 (by decide) (fun hp => absurd hp hc6) (fun _ => ?_)
      exact f_RuleReader_readFact_b31_ok hD kb_readTest kb_readFact hf K0
  · refine xs_if_ne (tgt := 31) d17_11 (by decide) (fun hp => absurd hp hc3) (fun _ => ?_)
    exact f_RuleReader_readFact_b31_ok hD kb_readTest kb_readFact hf K0
noncomputable def f_RuleReader_readFact (cb_readTest : Int32 → xH → Option xH) (cb_readFact : Int32 → xH → Option xH) (v1 : Int32) (h : xH) : Option xH := f_RuleReader_readFact_e cb_readTest cb_readFact v1 h
theorem f_RuleReader_readFact_ok {g : xG} {l : Launch} {d : Nat} {cb_readTest : Int32 → xH → Option xH} {cb_readFact : Int32 → xH → Option xH} {v1 : Int32} {h : xH} {h1 : xH} (hD : 5 ≤ d) (kb_readTest : ∀ (a : Int32) (h h1 : xH), cb_readTest a h = some h1 → xC g l (d - 1) 15 [xr 3 (some 0), xi a] h none h1) (kb_readFact : ∀ (a : Int32) (h h1 : xH), cb_readFact a h = some h1 → xC g l (d - 1) 17 [xr 3 (some 0), xi a] h none h1) (hf : f_RuleReader_readFact cb_readTest cb_readFact v1 h = some h1) : xC g l d 17 [xr 3 (some 0), xi v1] h none h1 :=
  xC_of2 (by decide) mx17 (Nat.le_of_ble_eq_true rfl) (f_RuleReader_readFact_e_ok hD kb_readTest kb_readFact hf (fun _ e => ⟨rfl, e⟩))
noncomputable def f_RuleReader_rF : Nat → Int32 → xH → Option xH
  | 0 => fun _ _ => none
  | n + 1 => f_RuleReader_readFact (f_RuleReader_readTest (f_RuleReader_readPart (f_RuleReader_rF n))) (f_RuleReader_rF n)
theorem f_RuleReader_rF_ok {g : xG} {l : Launch} : ∀ (n d : Nat) (a : Int32) (h h1 : xH), 3 * n + 8 ≤ d → f_RuleReader_rF n a h = some h1 → xC g l d 17 [xr 3 (some 0), xi a] h none h1
  | 0, _, _, _, _, _, e => by cases e
  | n + 1, d, a, h, h1, hd, e => f_RuleReader_readFact_ok (by omega) (fun a h h1 e => f_RuleReader_readTest_ok (by omega) (fun a h h1 e => f_RuleReader_readPart_ok (by omega) (fun a h h1 e => f_RuleReader_rF_ok n _ a h h1 (by omega) e) e) e) (fun a h h1 e => f_RuleReader_rF_ok n _ a h h1 (by omega) e) e
noncomputable def f_RuleReader_rT (v1 : Int32) (h : xH) : Option xH := f_RuleReader_readTest (f_RuleReader_readPart (f_RuleReader_rF 14)) v1 h
theorem f_RuleReader_rT_ok {g : xG} {l : Launch} {d : Nat} {v1 : Int32} {h h1 : xH} (hD : 52 ≤ d) (hf : f_RuleReader_rT v1 h = some h1) : xC g l d 15 [xr 3 (some 0), xi v1] h none h1 :=
  f_RuleReader_readTest_ok (by omega) (fun a h h1 e => f_RuleReader_readPart_ok (by omega) (fun a h h1 e => f_RuleReader_rF_ok 14 _ a h h1 (by omega) e) e) hf
theorem d14_0 : decode (xcode 14) 0 = .ok (.aload_n 0, 1) := by decide +kernel
theorem d14_1 : decode (xcode 14) 1 = .ok (.getfield 9, 3) := by decide +kernel
theorem d14_4 : decode (xcode 14) 4 = .ok (.bipush 15, 2) := by decide +kernel
theorem d14_6 : decode (xcode 14) 6 = .ok (.invokevirtual 46, 3) := by decide +kernel
theorem d14_9 : decode (xcode 14) 9 = .ok (.ifCond .ne 12, 3) := by decide +kernel
theorem d14_12 : decode (xcode 14) 12 = .ok (.aload_n 0, 1) := by decide +kernel
theorem d14_13 : decode (xcode 14) 13 = .ok (.getfield 9, 3) := by decide +kernel
theorem d14_16 : decode (xcode 14) 16 = .ok (.iconst 0, 1) := by decide +kernel
theorem d14_17 : decode (xcode 14) 17 = .ok (.invokevirtual 50, 3) := by decide +kernel
theorem d14_20 : decode (xcode 14) 20 = .ok (.return_, 1) := by decide +kernel
theorem d14_21 : decode (xcode 14) 21 = .ok (.aload_n 0, 1) := by decide +kernel
theorem d14_22 : decode (xcode 14) 22 = .ok (.getfield 24, 3) := by decide +kernel
theorem d14_25 : decode (xcode 14) 25 = .ok (.bipush 12, 2) := by decide +kernel
theorem d14_27 : decode (xcode 14) 27 = .ok (.if_icmp .lt 12, 3) := by decide +kernel
theorem d14_30 : decode (xcode 14) 30 = .ok (.aload_n 0, 1) := by decide +kernel
theorem d14_31 : decode (xcode 14) 31 = .ok (.getfield 9, 3) := by decide +kernel
theorem d14_34 : decode (xcode 14) 34 = .ok (.iconst 4, 1) := by decide +kernel
theorem d14_35 : decode (xcode 14) 35 = .ok (.invokevirtual 50, 3) := by decide +kernel
theorem d14_38 : decode (xcode 14) 38 = .ok (.return_, 1) := by decide +kernel
theorem d14_39 : decode (xcode 14) 39 = .ok (.aload_n 0, 1) := by decide +kernel
theorem d14_40 : decode (xcode 14) 40 = .ok (.dup, 1) := by decide +kernel
theorem d14_41 : decode (xcode 14) 41 = .ok (.getfield 24, 3) := by decide +kernel
theorem d14_44 : decode (xcode 14) 44 = .ok (.iconst 1, 1) := by decide +kernel
theorem d14_45 : decode (xcode 14) 45 = .ok (.iadd, 1) := by decide +kernel
theorem d14_46 : decode (xcode 14) 46 = .ok (.putfield 24, 3) := by decide +kernel
theorem d14_49 : decode (xcode 14) 49 = .ok (.aload_n 0, 1) := by decide +kernel
theorem d14_50 : decode (xcode 14) 50 = .ok (.getfield 9, 3) := by decide +kernel
theorem d14_53 : decode (xcode 14) 53 = .ok (.invokevirtual 54, 3) := by decide +kernel
theorem d14_56 : decode (xcode 14) 56 = .ok (.aload_n 0, 1) := by decide +kernel
theorem d14_57 : decode (xcode 14) 57 = .ok (.invokevirtual 57, 3) := by decide +kernel
theorem d14_60 : decode (xcode 14) 60 = .ok (.aload_n 0, 1) := by decide +kernel
theorem d14_61 : decode (xcode 14) 61 = .ok (.getfield 9, 3) := by decide +kernel
theorem d14_64 : decode (xcode 14) 64 = .ok (.invokevirtual 60, 3) := by decide +kernel
theorem d14_67 : decode (xcode 14) 67 = .ok (.ifCond .eq 39, 3) := by decide +kernel
theorem d14_70 : decode (xcode 14) 70 = .ok (.aload_n 0, 1) := by decide +kernel
theorem d14_71 : decode (xcode 14) 71 = .ok (.getfield 9, 3) := by decide +kernel
theorem d14_74 : decode (xcode 14) 74 = .ok (.bipush 16, 2) := by decide +kernel
theorem d14_76 : decode (xcode 14) 76 = .ok (.invokevirtual 46, 3) := by decide +kernel
theorem d14_79 : decode (xcode 14) 79 = .ok (.ifCond .eq 27, 3) := by decide +kernel
theorem d14_82 : decode (xcode 14) 82 = .ok (.aload_n 0, 1) := by decide +kernel
theorem d14_83 : decode (xcode 14) 83 = .ok (.getfield 9, 3) := by decide +kernel
theorem d14_86 : decode (xcode 14) 86 = .ok (.invokevirtual 54, 3) := by decide +kernel
theorem d14_89 : decode (xcode 14) 89 = .ok (.aload_n 0, 1) := by decide +kernel
theorem d14_90 : decode (xcode 14) 90 = .ok (.iconst 0, 1) := by decide +kernel
theorem d14_91 : decode (xcode 14) 91 = .ok (.invokevirtual 63, 3) := by decide +kernel
theorem d14_94 : decode (xcode 14) 94 = .ok (.aload_n 0, 1) := by decide +kernel
theorem d14_95 : decode (xcode 14) 95 = .ok (.getfield 15, 3) := by decide +kernel
theorem d14_98 : decode (xcode 14) 98 = .ok (.bipush 25, 2) := by decide +kernel
theorem d14_100 : decode (xcode 14) 100 = .ok (.invokevirtual 66, 3) := by decide +kernel
theorem d14_103 : decode (xcode 14) 103 = .ok (.goto 12, 3) := by decide +kernel
theorem d14_106 : decode (xcode 14) 106 = .ok (.aload_n 0, 1) := by decide +kernel
theorem d14_107 : decode (xcode 14) 107 = .ok (.getfield 15, 3) := by decide +kernel
theorem d14_110 : decode (xcode 14) 110 = .ok (.bipush 26, 2) := by decide +kernel
theorem d14_112 : decode (xcode 14) 112 = .ok (.invokevirtual 66, 3) := by decide +kernel
theorem d14_115 : decode (xcode 14) 115 = .ok (.return_, 1) := by decide +kernel
noncomputable def f_RuleReader_readClause_b106 (h : xH) : Option xH :=
  (h.2.2.1 3 1 0).bind fun i918 =>
  (f_Rule_add i918 (26 : Int32) h).bind fun h21 =>
  some (h21)
set_option maxHeartbeats 4000000 in
set_option maxRecDepth 100000 in
theorem f_RuleReader_readClause_b106_ok {g : xG} {l : Launch} {d : Nat} {h : xH} {o : xH} {R : Option xV} {H' : xH} (hD : 53 ≤ d) (hf : f_RuleReader_readClause_b106 h = some o) (K0 : ∀ (h1 : xH), o = h1 → R = none ∧ H' = h1) : xEv g l d 14 106 [(0, xr 3 (some 0))] [] h R H' := by
  unfold f_RuleReader_readClause_b106 at hf
  refine xs_aload_n d14_106 rfl ?_
  refine xe_getd d14_107 ky14 fl59 fk3_1 ?_
  refine xs_bipush (v := 26) d14_110 (by decide) ?_
  obtain ⟨i918, ei918, hf⟩ := lk_b hf
  rw [ei918]
  obtain ⟨h21, hc20, hf⟩ := lk_b hf
  refine xe_callv0 (as := [xi (26 : Int32)]) (st := []) (h2 := h21) (d2 := d - 1) d14_112 ky14 ml46 st9 (by decide) cn9 rfl na9 (Nat.le_of_ble_eq_true rfl) (by omega) (f_Rule_add_ok (by omega) hc20) ?_
  obtain ⟨eR, eH⟩ := K0 _ (Option.some.inj hf).symm
  subst eR; subst eH
  exact xs_vret d14_115 rt14
noncomputable def f_RuleReader_readClause_e (h : xH) : Option xH :=
  (f_Tape_isWord (15 : Int32) h).bind fun r1 =>
  if r1 = (0 : Int32) then (
  (f_Tape_fail (0 : Int32) h).bind fun h6 =>
  some (h6)) else (
  if (h.1 3 2 0) < (12 : Int32) then (
  xlet (xsI h 3 2 0 ((h.1 3 2 0) + (1 : Int32))) fun h8 =>
  (f_Tape_goOn h8).bind fun h11 =>
  (f_RuleReader_readSum h11).bind fun h14 =>
  (f_Tape_isWell h14).bind fun r15 =>
  if r15 = (0 : Int32) then (
  f_RuleReader_readClause_b106 h14) else (
  (f_Tape_isWord (16 : Int32) h14).bind fun r22 =>
  if r22 = (0 : Int32) then (
  f_RuleReader_readClause_b106 h14) else (
  (f_Tape_goOn h14).bind fun h27 =>
  (f_RuleReader_rT (0 : Int32) h27).bind fun h30 =>
  (h30.2.2.1 3 1 0).bind fun i931 =>
  (f_Rule_add i931 (25 : Int32) h30).bind fun h34 =>
  some (h34)))) else (
  (f_Tape_fail (4 : Int32) h).bind fun h37 =>
  some (h37)))
set_option maxHeartbeats 4000000 in
set_option maxRecDepth 100000 in
theorem f_RuleReader_readClause_e_ok {g : xG} {l : Launch} {d : Nat} {h : xH} {o : xH} {R : Option xV} {H' : xH} (hD : 53 ≤ d) (hf : f_RuleReader_readClause_e h = some o) (K0 : ∀ (h1 : xH), o = h1 → R = none ∧ H' = h1) : xEv g l d 14 0 [(0, xr 3 (some 0))] [] h R H' := by
  unfold f_RuleReader_readClause_e at hf
  refine xs_aload_n d14_0 rfl ?_
  refine xe_getc (j := 0) d14_1 ky14 fl58 fk3_0 rfl ?_
  refine xs_bipush (v := 15) d14_4 (by decide) ?_
  obtain ⟨r1, hc2, hf⟩ := lk_b hf
  refine xe_callv1 (as := [xi (15 : Int32)]) (st := []) (h2 := h) (d2 := d - 1) d14_6 ky14 ml40 st72 (by decide) cn72 rfl na72 (Nat.le_of_ble_eq_true rfl) (by omega) (f_Tape_isWord_ok (by omega) hc2) ?_
  rcases lk_if hf with ⟨hc3, hf⟩ | ⟨hc3, hf⟩
  · refine xs_if_ne (tgt := 21) d14_9 (by decide) (fun _ => ?_) (fun hn => absurd hc3 hn)
    refine xs_aload_n d14_12 rfl ?_
    refine xe_getc (j := 0) d14_13 ky14 fl58 fk3_0 rfl ?_
    refine xs_iconst (v := 0) d14_16 (by decide) ?_
    obtain ⟨h6, hc5, hf⟩ := lk_b hf
    refine xe_callv0 (as := [xi (0 : Int32)]) (st := []) (h2 := h6) (d2 := d - 1) d14_17 ky14 ml41 st70 (by decide) cn70 rfl na70 (Nat.le_of_ble_eq_true rfl) (by omega) (f_Tape_fail_ok (by omega) hc5) ?_
    obtain ⟨eR, eH⟩ := K0 _ (Option.some.inj hf).symm
    subst eR; subst eH
    exact xs_vret d14_20 rt14
  · refine xs_if_ne (tgt := 21) d14_9 (by decide) (fun hp => absurd hp hc3) (fun _ => ?_)
    refine xs_aload_n d14_21 rfl ?_
    refine xe_geti d14_22 ky14 fl60 fk3_2 ?_
    refine xs_bipush (v := 12) d14_25 (by decide) ?_
    rcases lk_if hf with ⟨hc7, hf⟩ | ⟨hc7, hf⟩
    · refine xs_icmp_lt (tgt := 39) d14_27 (by decide) (fun _ => ?_) (fun hn => absurd hc7 hn)
      refine xs_aload_n d14_39 rfl ?_
      refine xs_dup d14_40 rfl ?_
      refine xe_geti d14_41 ky14 fl60 fk3_2 ?_
      refine xs_iconst (v := 1) d14_44 (by decide) ?_
      refine xs_iadd d14_45 ?_
      obtain ⟨h8, eh8, hf⟩ := lk_let hf
      refine xe_puti d14_46 ky14 fl60 fk3_2 ft3_2 eh8 ?_
      refine xs_aload_n d14_49 rfl ?_
      refine xe_getc (j := 0) d14_50 ky14 fl58 fk3_0 rfl ?_
      obtain ⟨h11, hc10, hf⟩ := lk_b hf
      refine xe_callv0 (as := []) (st := []) (h2 := h11) (d2 := d - 1) d14_53 ky14 ml42 st68 (by decide) cn68 rfl na68 (Nat.le_of_ble_eq_true rfl) (by omega) (f_Tape_goOn_ok (by omega) hc10) ?_
      refine xs_aload_n d14_56 rfl ?_
      obtain ⟨h14, hc13, hf⟩ := lk_b hf
      refine xe_callv0 (as := []) (st := []) (h2 := h14) (d2 := d - 1) d14_57 ky14 ml43 st21 (by decide) cn21 rfl na21 (Nat.le_of_ble_eq_true rfl) (by omega) (f_RuleReader_readSum_ok (by omega) hc13) ?_
      refine xs_aload_n d14_60 rfl ?_
      refine xe_getc (j := 0) d14_61 ky14 fl58 fk3_0 rfl ?_
      obtain ⟨r15, hc16, hf⟩ := lk_b hf
      refine xe_callv1 (as := []) (st := []) (h2 := h14) (d2 := d - 1) d14_64 ky14 ml47 st69 (by decide) cn69 rfl na69 (Nat.le_of_ble_eq_true rfl) (by omega) (f_Tape_isWell_ok (by omega) hc16) ?_
      rcases lk_if hf with ⟨hc17, hf⟩ | ⟨hc17, hf⟩
      · refine xs_if_eq (tgt := 106) d14_67 (by decide) (fun _ => ?_) (fun hn => absurd hc17 hn)
        exact f_RuleReader_readClause_b106_ok hD hf K0
      · refine xs_if_eq (tgt := 106) d14_67 (by decide) (fun hp => absurd hp hc17) (fun _ => ?_)
        refine xs_aload_n d14_70 rfl ?_
        refine xe_getc (j := 0) d14_71 ky14 fl58 fk3_0 rfl ?_
        refine xs_bipush (v := 16) d14_74 (by decide) ?_
        obtain ⟨r22, hc23, hf⟩ := lk_b hf
        refine xe_callv1 (as := [xi (16 : Int32)]) (st := []) (h2 := h14) (d2 := d - 1) d14_76 ky14 ml40 st72 (by decide) cn72 rfl na72 (Nat.le_of_ble_eq_true rfl) (by omega) (f_Tape_isWord_ok (by omega) hc23) ?_
        rcases lk_if hf with ⟨hc24, hf⟩ | ⟨hc24, hf⟩
        · refine xs_if_eq (tgt := 106) d14_79 (by decide) (fun _ => ?_) (fun hn => absurd hc24 hn)
          exact f_RuleReader_readClause_b106_ok hD hf K0
        · refine xs_if_eq (tgt := 106) d14_79 (by decide) (fun hp => absurd hp hc24) (fun _ => ?_)
          refine xs_aload_n d14_82 rfl ?_
          refine xe_getc (j := 0) d14_83 ky14 fl58 fk3_0 rfl ?_
          obtain ⟨h27, hc26, hf⟩ := lk_b hf
          refine xe_callv0 (as := []) (st := []) (h2 := h27) (d2 := d - 1) d14_86 ky14 ml42 st68 (by decide) cn68 rfl na68 (Nat.le_of_ble_eq_true rfl) (by omega) (f_Tape_goOn_ok (by omega) hc26) ?_
          refine xs_aload_n d14_89 rfl ?_
          refine xs_iconst (v := 0) d14_90 (by decide) ?_
          obtain ⟨h30, hc29, hf⟩ := lk_b hf
          refine xe_callv0 (as := [xi (0 : Int32)]) (st := []) (h2 := h30) (d2 := d - 1) d14_91 ky14 ml49 st15 (by decide) cn15 rfl na15 (Nat.le_of_ble_eq_true rfl) (by omega) (f_RuleReader_rT_ok (by omega) hc29) ?_
          refine xs_aload_n d14_94 rfl ?_
          refine xe_getd d14_95 ky14 fl59 fk3_1 ?_
          refine xs_bipush (v := 25) d14_98 (by decide) ?_
          obtain ⟨i931, ei931, hf⟩ := lk_b hf
          rw [ei931]
          obtain ⟨h34, hc33, hf⟩ := lk_b hf
          refine xe_callv0 (as := [xi (25 : Int32)]) (st := []) (h2 := h34) (d2 := d - 1) d14_100 ky14 ml46 st9 (by decide) cn9 rfl na9 (Nat.le_of_ble_eq_true rfl) (by omega) (f_Rule_add_ok (by omega) hc33) ?_
          refine xs_goto (tgt := 115) d14_103 (by decide) ?_
          obtain ⟨eR, eH⟩ := K0 _ (Option.some.inj hf).symm
          subst eR; subst eH
          exact xs_vret d14_115 rt14
    · refine xs_icmp_lt (tgt := 39) d14_27 (by decide) (fun hp => absurd hp hc7) (fun _ => ?_)
      refine xs_aload_n d14_30 rfl ?_
      refine xe_getc (j := 0) d14_31 ky14 fl58 fk3_0 rfl ?_
      refine xs_iconst (v := 4) d14_34 (by decide) ?_
      obtain ⟨h37, hc36, hf⟩ := lk_b hf
      refine xe_callv0 (as := [xi (4 : Int32)]) (st := []) (h2 := h37) (d2 := d - 1) d14_35 ky14 ml41 st70 (by decide) cn70 rfl na70 (Nat.le_of_ble_eq_true rfl) (by omega) (f_Tape_fail_ok (by omega) hc36) ?_
      obtain ⟨eR, eH⟩ := K0 _ (Option.some.inj hf).symm
      subst eR; subst eH
      exact xs_vret d14_38 rt14
noncomputable def f_RuleReader_readClause (h : xH) : Option xH := f_RuleReader_readClause_e h
theorem f_RuleReader_readClause_ok {g : xG} {l : Launch} {d : Nat} {h : xH} {h1 : xH} (hD : 53 ≤ d) (hf : f_RuleReader_readClause h = some h1) : xC g l d 14 [xr 3 (some 0)] h none h1 :=
  xC_of2 (by decide) mx14 (Nat.le_of_ble_eq_true rfl) (f_RuleReader_readClause_e_ok hD hf (fun _ e => ⟨rfl, e⟩))
theorem d73_0 : decode (xcode 73) 0 = .ok (.aload_n 0, 1) := by decide +kernel
theorem d73_1 : decode (xcode 73) 1 = .ok (.invokevirtual 90, 3) := by decide +kernel
theorem d73_4 : decode (xcode 73) 4 = .ok (.ifCond .ne 5, 3) := by decide +kernel
theorem d73_7 : decode (xcode 73) 7 = .ok (.iconst 0, 1) := by decide +kernel
theorem d73_8 : decode (xcode 73) 8 = .ok (.ireturn, 1) := by decide +kernel
theorem d73_9 : decode (xcode 73) 9 = .ok (.aload_n 0, 1) := by decide +kernel
theorem d73_10 : decode (xcode 73) 10 = .ok (.bipush 59, 2) := by decide +kernel
theorem d73_12 : decode (xcode 73) 12 = .ok (.invokevirtual 94, 3) := by decide +kernel
theorem d73_15 : decode (xcode 73) 15 = .ok (.ifCond .eq 9, 3) := by decide +kernel
theorem d73_18 : decode (xcode 73) 18 = .ok (.aload_n 0, 1) := by decide +kernel
theorem d73_19 : decode (xcode 73) 19 = .ok (.invokevirtual 45, 3) := by decide +kernel
theorem d73_22 : decode (xcode 73) 22 = .ok (.iconst 1, 1) := by decide +kernel
theorem d73_23 : decode (xcode 73) 23 = .ok (.ireturn, 1) := by decide +kernel
theorem d73_24 : decode (xcode 73) 24 = .ok (.aload_n 0, 1) := by decide +kernel
theorem d73_25 : decode (xcode 73) 25 = .ok (.getfield 84, 3) := by decide +kernel
theorem d73_28 : decode (xcode 73) 28 = .ok (.ifCond .eq 8, 3) := by decide +kernel
theorem d73_31 : decode (xcode 73) 31 = .ok (.aload_n 0, 1) := by decide +kernel
theorem d73_32 : decode (xcode 73) 32 = .ok (.iconst 0, 1) := by decide +kernel
theorem d73_33 : decode (xcode 73) 33 = .ok (.invokevirtual 97, 3) := by decide +kernel
theorem d73_36 : decode (xcode 73) 36 = .ok (.iconst 0, 1) := by decide +kernel
theorem d73_37 : decode (xcode 73) 37 = .ok (.ireturn, 1) := by decide +kernel
noncomputable def f_Tape_goToClause_e (h : xH) : Option (Int32 × xH) :=
  (f_Tape_isWell h).bind fun r1 =>
  if r1 = (0 : Int32) then (
  some (((0 : Int32), h))) else (
  (f_Tape_isSign (59 : Int32) h).bind fun r4 =>
  if r4 = (0 : Int32) then (
  if (h.1 7 7 0) = (0 : Int32) then (
  some (((0 : Int32), h))) else (
  (f_Tape_fail (0 : Int32) h).bind fun h10 =>
  some (((0 : Int32), h10)))) else (
  (f_Tape_goOn h).bind fun h13 =>
  some (((1 : Int32), h13))))
set_option maxHeartbeats 4000000 in
set_option maxRecDepth 100000 in
theorem f_Tape_goToClause_e_ok {g : xG} {l : Launch} {d : Nat} {h : xH} {o : (Int32 × xH)} {R : Option xV} {H' : xH} (hD : 1 ≤ d) (hf : f_Tape_goToClause_e h = some o) (K0 : ∀ (a : Int32) (h1 : xH), o = (a, h1) → R = some (xi a) ∧ H' = h1) : xEv g l d 73 0 [(0, xr 7 (some 0))] [] h R H' := by
  unfold f_Tape_goToClause_e at hf
  refine xs_aload_n d73_0 rfl ?_
  obtain ⟨r1, hc2, hf⟩ := lk_b hf
  refine xe_callv1 (as := []) (st := []) (h2 := h) (d2 := d - 1) d73_1 ky73 ml29 st69 (by decide) cn69 rfl na69 (Nat.le_of_ble_eq_true rfl) (by omega) (f_Tape_isWell_ok (by omega) hc2) ?_
  rcases lk_if hf with ⟨hc3, hf⟩ | ⟨hc3, hf⟩
  · refine xs_if_ne (tgt := 9) d73_4 (by decide) (fun _ => ?_) (fun hn => absurd hc3 hn)
    refine xs_iconst (v := 0) d73_7 (by decide) ?_
    obtain ⟨eR, eH⟩ := K0 _ _ (Option.some.inj hf).symm
    subst eR; subst eH
    exact xe_zret d73_8 (Or.inl rfl) rt73
  · refine xs_if_ne (tgt := 9) d73_4 (by decide) (fun hp => absurd hp hc3) (fun _ => ?_)
    refine xs_aload_n d73_9 rfl ?_
    refine xs_bipush (v := 59) d73_10 (by decide) ?_
    obtain ⟨r4, hc5, hf⟩ := lk_b hf
    refine xe_callv1 (as := [xi (59 : Int32)]) (st := []) (h2 := h) (d2 := d - 1) d73_12 ky73 ml30 st71 (by decide) cn71 rfl na71 (Nat.le_of_ble_eq_true rfl) (by omega) (f_Tape_isSign_ok (by omega) hc5) ?_
    rcases lk_if hf with ⟨hc6, hf⟩ | ⟨hc6, hf⟩
    · refine xs_if_eq (tgt := 24) d73_15 (by decide) (fun _ => ?_) (fun hn => absurd hc6 hn)
      refine xs_aload_n d73_24 rfl ?_
      refine xe_geti d73_25 ky73 fl10 fk7_7 ?_
      rcases lk_if hf with ⟨hc7, hf⟩ | ⟨hc7, hf⟩
      · refine xs_if_eq (tgt := 36) d73_28 (by decide) (fun _ => ?_) (fun hn => absurd hc7 hn)
        refine xs_iconst (v := 0) d73_36 (by decide) ?_
        obtain ⟨eR, eH⟩ := K0 _ _ (Option.some.inj hf).symm
        subst eR; subst eH
        exact xe_zret d73_37 (Or.inl rfl) rt73
      · refine xs_if_eq (tgt := 36) d73_28 (by decide) (fun hp => absurd hp hc7) (fun _ => ?_)
        refine xs_aload_n d73_31 rfl ?_
        refine xs_iconst (v := 0) d73_32 (by decide) ?_
        obtain ⟨h10, hc9, hf⟩ := lk_b hf
        refine xe_callv0 (as := [xi (0 : Int32)]) (st := []) (h2 := h10) (d2 := d - 1) d73_33 ky73 ml31 st70 (by decide) cn70 rfl na70 (Nat.le_of_ble_eq_true rfl) (by omega) (f_Tape_fail_ok (by omega) hc9) ?_
        refine xs_iconst (v := 0) d73_36 (by decide) ?_
        obtain ⟨eR, eH⟩ := K0 _ _ (Option.some.inj hf).symm
        subst eR; subst eH
        exact xe_zret d73_37 (Or.inl rfl) rt73
    · refine xs_if_eq (tgt := 24) d73_15 (by decide) (fun hp => absurd hp hc6) (fun _ => ?_)
      refine xs_aload_n d73_18 rfl ?_
      obtain ⟨h13, hc12, hf⟩ := lk_b hf
      refine xe_callv0 (as := []) (st := []) (h2 := h13) (d2 := d - 1) d73_19 ky73 ml17 st68 (by decide) cn68 rfl na68 (Nat.le_of_ble_eq_true rfl) (by omega) (f_Tape_goOn_ok (by omega) hc12) ?_
      refine xs_iconst (v := 1) d73_22 (by decide) ?_
      obtain ⟨eR, eH⟩ := K0 _ _ (Option.some.inj hf).symm
      subst eR; subst eH
      exact xe_zret d73_23 (Or.inr rfl) rt73
noncomputable def f_Tape_goToClause (h : xH) : Option (Int32 × xH) := f_Tape_goToClause_e h
theorem f_Tape_goToClause_ok {g : xG} {l : Launch} {d : Nat} {h : xH} {r : Int32} {h1 : xH} (hD : 1 ≤ d) (hf : f_Tape_goToClause h = some (r, h1)) : xC g l d 73 [xr 7 (some 0)] h (some (xi r)) h1 :=
  xC_of2 (by decide) mx73 (Nat.le_of_ble_eq_true rfl) (f_Tape_goToClause_e_ok hD hf (fun _ _ e => by cases e; exact ⟨rfl, rfl⟩))
theorem d13_0 : decode (xcode 13) 0 = .ok (.aload_n 0, 1) := by decide +kernel
theorem d13_1 : decode (xcode 13) 1 = .ok (.aload_n 1, 1) := by decide +kernel
theorem d13_2 : decode (xcode 13) 2 = .ok (.putfield 15, 3) := by decide +kernel
theorem d13_5 : decode (xcode 13) 5 = .ok (.aload_n 0, 1) := by decide +kernel
theorem d13_6 : decode (xcode 13) 6 = .ok (.getfield 15, 3) := by decide +kernel
theorem d13_9 : decode (xcode 13) 9 = .ok (.invokevirtual 19, 3) := by decide +kernel
theorem d13_12 : decode (xcode 13) 12 = .ok (.aload_n 0, 1) := by decide +kernel
theorem d13_13 : decode (xcode 13) 13 = .ok (.iconst 0, 1) := by decide +kernel
theorem d13_14 : decode (xcode 13) 14 = .ok (.putfield 24, 3) := by decide +kernel
theorem d13_17 : decode (xcode 13) 17 = .ok (.aload_n 0, 1) := by decide +kernel
theorem d13_18 : decode (xcode 13) 18 = .ok (.iconst 0, 1) := by decide +kernel
theorem d13_19 : decode (xcode 13) 19 = .ok (.putfield 28, 3) := by decide +kernel
theorem d13_22 : decode (xcode 13) 22 = .ok (.aload_n 0, 1) := by decide +kernel
theorem d13_23 : decode (xcode 13) 23 = .ok (.getfield 9, 3) := by decide +kernel
theorem d13_26 : decode (xcode 13) 26 = .ok (.invokevirtual 31, 3) := by decide +kernel
theorem d13_29 : decode (xcode 13) 29 = .ok (.iconst 1, 1) := by decide +kernel
theorem d13_30 : decode (xcode 13) 30 = .ok (.istore_n 2, 1) := by decide +kernel
theorem d13_31 : decode (xcode 13) 31 = .ok (.iconst 0, 1) := by decide +kernel
theorem d13_32 : decode (xcode 13) 32 = .ok (.istore_n 3, 1) := by decide +kernel
theorem d13_33 : decode (xcode 13) 33 = .ok (.iload_n 3, 1) := by decide +kernel
theorem d13_34 : decode (xcode 13) 34 = .ok (.bipush 12, 2) := by decide +kernel
theorem d13_36 : decode (xcode 13) 36 = .ok (.if_icmp .gt 25, 3) := by decide +kernel
theorem d13_39 : decode (xcode 13) 39 = .ok (.iload_n 2, 1) := by decide +kernel
theorem d13_40 : decode (xcode 13) 40 = .ok (.ifCond .eq 21, 3) := by decide +kernel
theorem d13_43 : decode (xcode 13) 43 = .ok (.aload_n 0, 1) := by decide +kernel
theorem d13_44 : decode (xcode 13) 44 = .ok (.invokevirtual 36, 3) := by decide +kernel
theorem d13_47 : decode (xcode 13) 47 = .ok (.aload_n 0, 1) := by decide +kernel
theorem d13_48 : decode (xcode 13) 48 = .ok (.getfield 9, 3) := by decide +kernel
theorem d13_51 : decode (xcode 13) 51 = .ok (.invokevirtual 39, 3) := by decide +kernel
theorem d13_54 : decode (xcode 13) 54 = .ok (.istore_n 2, 1) := by decide +kernel
theorem d13_55 : decode (xcode 13) 55 = .ok (.iinc 3 1, 3) := by decide +kernel
theorem d13_58 : decode (xcode 13) 58 = .ok (.goto (-25), 3) := by decide +kernel
theorem d13_61 : decode (xcode 13) 61 = .ok (.aload_n 0, 1) := by decide +kernel
theorem d13_62 : decode (xcode 13) 62 = .ok (.getfield 9, 3) := by decide +kernel
theorem d13_65 : decode (xcode 13) 65 = .ok (.getfield 43, 3) := by decide +kernel
theorem d13_68 : decode (xcode 13) 68 = .ok (.ireturn, 1) := by decide +kernel
noncomputable def f_RuleReader_readAll_b61 (h : xH) : Option (Int32 × xH) :=
  some ((h.1 7 9 0, h))
set_option maxHeartbeats 4000000 in
set_option maxRecDepth 100000 in
theorem f_RuleReader_readAll_b61_ok {g : xG} {l : Launch} {d : Nat} {h : xH} {o : (Int32 × xH)} {R : Option xV} {H' : xH} (hD : 54 ≤ d) (hf : f_RuleReader_readAll_b61 h = some o) (K0 : ∀ (a : Int32) (h1 : xH), o = (a, h1) → R = some (xi a) ∧ H' = h1) : xEv g l d 13 61 [(0, xr 3 (some 0))] [] h R H' := by
  unfold f_RuleReader_readAll_b61 at hf
  refine xs_aload_n d13_61 rfl ?_
  refine xe_getc (j := 0) d13_62 ky13 fl58 fk3_0 rfl ?_
  refine xe_geti d13_65 ky13 fl15 fk7_9 ?_
  obtain ⟨eR, eH⟩ := K0 _ _ (Option.some.inj hf).symm
  subst eR; subst eH
  exact xs_iret d13_68 rt13
noncomputable def f_RuleReader_readAll_s33 (v2 : Int32) (v3 : Int32) (h : xH) : Option ((Int32 × Int32 × xH) ⊕ (Int32 × xH)) :=
  if (12 : Int32) < v3 then (
  xup (f_RuleReader_readAll_b61 h)) else (
  if v2 = (0 : Int32) then (
  xup (f_RuleReader_readAll_b61 h)) else (
  (f_RuleReader_readClause h).bind fun h15 =>
  (f_Tape_goToClause h15).bind fun q18 =>
  xlet (v3 + (1 : Int32)) fun v3_19 =>
  some (Sum.inl (q18.1, v3_19, q18.2))))
set_option maxHeartbeats 4000000 in
set_option maxRecDepth 100000 in
theorem f_RuleReader_readAll_s33_ok {g : xG} {l : Launch} {d : Nat} {v2 : Int32} {v3 : Int32} {h : xH} {o : ((Int32 × Int32 × xH) ⊕ (Int32 × xH))} {R : Option xV} {H' : xH} (hD : 54 ≤ d) (hf : f_RuleReader_readAll_s33 v2 v3 h = some o) (K1 : ∀ (w2 : Int32) (w3 : Int32) (h1 : xH), o = Sum.inl (w2, w3, h1) → xEv g l d 13 33 [(0, xr 3 (some 0)), (2, xi w2), (3, xi w3)] [] h1 R H') (K0 : ∀ (a : Int32) (h1 : xH), o = Sum.inr ((a, h1)) → R = some (xi a) ∧ H' = h1) : xEv g l d 13 33 [(0, xr 3 (some 0)), (2, xi v2), (3, xi v3)] [] h R H' := by
  unfold f_RuleReader_readAll_s33 at hf
  refine xs_iload_n d13_33 rfl ?_
  refine xs_bipush (v := 12) d13_34 (by decide) ?_
  rcases lk_if hf with ⟨hc11, hf⟩ | ⟨hc11, hf⟩
  · refine xs_icmp_gt (tgt := 61) d13_36 (by decide) (fun _ => ?_) (fun hn => absurd hc11 hn)
    refine xs_pick [0] rfl ?_
    obtain ⟨x0, hf, ex0⟩ := lk_up hf
    exact f_RuleReader_readAll_b61_ok hD hf (fun u0 u1 e => K0 u0 u1 (ex0.trans (congrArg Sum.inr e)))
  · refine xs_icmp_gt (tgt := 61) d13_36 (by decide) (fun hp => absurd hp hc11) (fun _ => ?_)
    refine xs_iload_n d13_39 rfl ?_
    rcases lk_if hf with ⟨hc12, hf⟩ | ⟨hc12, hf⟩
    · refine xs_if_eq (tgt := 61) d13_40 (by decide) (fun _ => ?_) (fun hn => absurd hc12 hn)
      refine xs_pick [0] rfl ?_
      obtain ⟨x0, hf, ex0⟩ := lk_up hf
      exact f_RuleReader_readAll_b61_ok hD hf (fun u0 u1 e => K0 u0 u1 (ex0.trans (congrArg Sum.inr e)))
    · refine xs_if_eq (tgt := 61) d13_40 (by decide) (fun hp => absurd hp hc12) (fun _ => ?_)
      refine xs_aload_n d13_43 rfl ?_
      obtain ⟨h15, hc14, hf⟩ := lk_b hf
      refine xe_callv0 (as := []) (st := []) (h2 := h15) (d2 := d - 1) d13_44 ky13 ml39 st14 (by decide) cn14 rfl na14 (Nat.le_of_ble_eq_true rfl) (by omega) (f_RuleReader_readClause_ok (by omega) hc14) ?_
      refine xs_aload_n d13_47 rfl ?_
      refine xe_getc (j := 0) d13_48 ky13 fl58 fk3_0 rfl ?_
      obtain ⟨q18, hc17, hf⟩ := lk_b hf
      refine xe_callv1 (as := []) (st := []) (h2 := q18.2) (d2 := d - 1) d13_51 ky13 ml55 st73 (by decide) cn73 rfl na73 (Nat.le_of_ble_eq_true rfl) (by omega) (f_Tape_goToClause_ok (by omega) hc17) ?_
      refine xe_istore_n (v := q18.1) (ls2 := [(0, xr 3 (some 0)), (2, xi q18.1), (3, xi v3)]) d13_54 mx13 (by decide) rfl rfl ?_
      obtain ⟨v3_19, ev3_19, hf⟩ := lk_let hf
      refine xe_iinc (v := v3_19) (b := 1) (ls2 := [(0, xr 3 (some 0)), (2, xi q18.1), (3, xi v3_19)]) d13_55 mx13 (by decide) rfl (by decide) ev3_19 rfl ?_
      refine xs_goto (tgt := 33) d13_58 (by decide) ?_
      exact K1 _ _ _ (Option.some.inj hf).symm
noncomputable def f_RuleReader_readAll_l33 (v2 : Int32) (v3 : Int32) (h : xH) : Option (Int32 × xH) :=
  whl (fun s => f_RuleReader_readAll_s33 s.1 s.2.1 s.2.2) (v2, v3, h)
theorem f_RuleReader_readAll_l33_ok {g : xG} {l : Launch} {d : Nat} {v2 : Int32} {v3 : Int32} {h : xH} {o : (Int32 × xH)} {R : Option xV} {H' : xH} (hD : 54 ≤ d) (hf : f_RuleReader_readAll_l33 v2 v3 h = some o) (K0 : ∀ (a : Int32) (h1 : xH), o = (a, h1) → R = some (xi a) ∧ H' = h1) : xEv g l d 13 33 [(0, xr 3 (some 0)), (2, xi v2), (3, xi v3)] [] h R H' := by
  obtain ⟨n, hn⟩ := whl_iff.mp hf
  clear hf
  induction n generalizing v2 v3 h with
  | zero => cases hn
  | succ n ih =>
    obtain ⟨o2, hs, hn⟩ := lk_b (show (f_RuleReader_readAll_s33 v2 v3 h).bind (fun o => Sum.elim (itn _ n) some o) = some o from hn)
    exact f_RuleReader_readAll_s33_ok hD hs (fun u0 u1 u2 e => ih (by rw [e] at hn; exact hn)) (fun u0 u1 e => K0 u0 u1 (by rw [e] at hn; exact (Option.some.inj hn).symm))
noncomputable def f_RuleReader_readAll_e (v1 : Option Nat) (h : xH) : Option (Int32 × xH) :=
  xlet (xsR h 3 1 0 (v1)) fun h1 =>
  (h1.2.2.1 3 1 0).bind fun i92 =>
  (f_Rule_clear i92 h1).bind fun h5 =>
  xlet (xsI h5 3 2 0 (0 : Int32)) fun h6 =>
  xlet (xsI h6 3 3 0 (0 : Int32)) fun h7 =>
  (f_Tape_rewind h7).bind fun h10 =>
  f_RuleReader_readAll_l33 (1 : Int32) (0 : Int32) h10
set_option maxHeartbeats 4000000 in
set_option maxRecDepth 100000 in
theorem f_RuleReader_readAll_e_ok {g : xG} {l : Launch} {d : Nat} {v1 : Option Nat} {h : xH} {o : (Int32 × xH)} {R : Option xV} {H' : xH} (hD : 54 ≤ d) (hf : f_RuleReader_readAll_e v1 h = some o) (K0 : ∀ (a : Int32) (h1 : xH), o = (a, h1) → R = some (xi a) ∧ H' = h1) : xEv g l d 13 0 [(0, xr 3 (some 0)), (1, xr 2 (v1))] [] h R H' := by
  unfold f_RuleReader_readAll_e at hf
  refine xs_aload_n d13_0 rfl ?_
  refine xs_aload_n d13_1 rfl ?_
  obtain ⟨h1, eh1, hf⟩ := lk_let hf
  refine xe_putd d13_2 ky13 fl59 fk3_1 ft3_1 eh1 ?_
  refine xs_aload_n d13_5 rfl ?_
  refine xe_getd d13_6 ky13 fl59 fk3_1 ?_
  obtain ⟨i92, ei92, hf⟩ := lk_b hf
  rw [ei92]
  obtain ⟨h5, hc4, hf⟩ := lk_b hf
  refine xe_callv0 (as := []) (st := []) (h2 := h5) (d2 := d - 1) d13_9 ky13 ml37 st8 (by decide) cn8 rfl na8 (Nat.le_of_ble_eq_true rfl) (by omega) (f_Rule_clear_ok (by omega) hc4) ?_
  refine xs_aload_n d13_12 rfl ?_
  refine xs_iconst (v := 0) d13_13 (by decide) ?_
  obtain ⟨h6, eh6, hf⟩ := lk_let hf
  refine xe_puti d13_14 ky13 fl60 fk3_2 ft3_2 eh6 ?_
  refine xs_aload_n d13_17 rfl ?_
  refine xs_iconst (v := 0) d13_18 (by decide) ?_
  obtain ⟨h7, eh7, hf⟩ := lk_let hf
  refine xe_puti d13_19 ky13 fl61 fk3_3 ft3_3 eh7 ?_
  refine xs_aload_n d13_22 rfl ?_
  refine xe_getc (j := 0) d13_23 ky13 fl58 fk3_0 rfl ?_
  obtain ⟨h10, hc9, hf⟩ := lk_b hf
  refine xe_callv0 (as := []) (st := []) (h2 := h10) (d2 := d - 1) d13_26 ky13 ml38 st61 (by decide) cn61 rfl na61 (Nat.le_of_ble_eq_true rfl) (by omega) (f_Tape_rewind_ok (by omega) hc9) ?_
  refine xs_iconst (v := 1) d13_29 (by decide) ?_
  refine xe_istore_n (v := (1 : Int32)) (ls2 := [(0, xr 3 (some 0)), (1, xr 2 (v1)), (2, xi (1 : Int32))]) d13_30 mx13 (by decide) rfl rfl ?_
  refine xs_iconst (v := 0) d13_31 (by decide) ?_
  refine xe_istore_n (v := (0 : Int32)) (ls2 := [(0, xr 3 (some 0)), (1, xr 2 (v1)), (2, xi (1 : Int32)), (3, xi (0 : Int32))]) d13_32 mx13 (by decide) rfl rfl ?_
  refine xs_pick [0, 2, 3] rfl ?_
  exact f_RuleReader_readAll_l33_ok hD hf K0
noncomputable def f_RuleReader_readAll (v1 : Option Nat) (h : xH) : Option (Int32 × xH) := f_RuleReader_readAll_e v1 h
theorem f_RuleReader_readAll_ok {g : xG} {l : Launch} {d : Nat} {v1 : Option Nat} {h : xH} {r : Int32} {h1 : xH} (hD : 54 ≤ d) (hf : f_RuleReader_readAll v1 h = some (r, h1)) : xC g l d 13 [xr 3 (some 0), xr 2 (v1)] h (some (xi r)) h1 :=
  xC_of2 (by decide) mx13 (Nat.le_of_ble_eq_true rfl) (f_RuleReader_readAll_e_ok hD hf (fun _ _ e => by cases e; exact ⟨rfl, rfl⟩))
theorem d75_0 : decode (xcode 75) 0 = .ok (.aload_n 0, 1) := by decide +kernel
theorem d75_1 : decode (xcode 75) 1 = .ok (.aload_n 1, 1) := by decide +kernel
theorem d75_2 : decode (xcode 75) 2 = .ok (.getfield 27, 3) := by decide +kernel
theorem d75_5 : decode (xcode 75) 5 = .ok (.putfield 27, 3) := by decide +kernel
theorem d75_8 : decode (xcode 75) 8 = .ok (.aload_n 0, 1) := by decide +kernel
theorem d75_9 : decode (xcode 75) 9 = .ok (.aload_n 1, 1) := by decide +kernel
theorem d75_10 : decode (xcode 75) 10 = .ok (.getfield 31, 3) := by decide +kernel
theorem d75_13 : decode (xcode 75) 13 = .ok (.putfield 31, 3) := by decide +kernel
theorem d75_16 : decode (xcode 75) 16 = .ok (.aload_n 0, 1) := by decide +kernel
theorem d75_17 : decode (xcode 75) 17 = .ok (.aload_n 1, 1) := by decide +kernel
theorem d75_18 : decode (xcode 75) 18 = .ok (.getfield 35, 3) := by decide +kernel
theorem d75_21 : decode (xcode 75) 21 = .ok (.putfield 35, 3) := by decide +kernel
theorem d75_24 : decode (xcode 75) 24 = .ok (.aload_n 0, 1) := by decide +kernel
theorem d75_25 : decode (xcode 75) 25 = .ok (.aload_n 1, 1) := by decide +kernel
theorem d75_26 : decode (xcode 75) 26 = .ok (.getfield 38, 3) := by decide +kernel
theorem d75_29 : decode (xcode 75) 29 = .ok (.putfield 38, 3) := by decide +kernel
theorem d75_32 : decode (xcode 75) 32 = .ok (.aload_n 0, 1) := by decide +kernel
theorem d75_33 : decode (xcode 75) 33 = .ok (.aload_n 1, 1) := by decide +kernel
theorem d75_34 : decode (xcode 75) 34 = .ok (.getfield 41, 3) := by decide +kernel
theorem d75_37 : decode (xcode 75) 37 = .ok (.putfield 41, 3) := by decide +kernel
theorem d75_40 : decode (xcode 75) 40 = .ok (.aload_n 1, 1) := by decide +kernel
theorem d75_41 : decode (xcode 75) 41 = .ok (.getfield 9, 3) := by decide +kernel
theorem d75_44 : decode (xcode 75) 44 = .ok (.iconst 0, 1) := by decide +kernel
theorem d75_45 : decode (xcode 75) 45 = .ok (.aload_n 0, 1) := by decide +kernel
theorem d75_46 : decode (xcode 75) 46 = .ok (.getfield 9, 3) := by decide +kernel
theorem d75_49 : decode (xcode 75) 49 = .ok (.iconst 0, 1) := by decide +kernel
theorem d75_50 : decode (xcode 75) 50 = .ok (.bipush 8, 2) := by decide +kernel
theorem d75_52 : decode (xcode 75) 52 = .ok (.invokestatic 44, 3) := by decide +kernel
theorem d75_55 : decode (xcode 75) 55 = .ok (.aload_n 1, 1) := by decide +kernel
theorem d75_56 : decode (xcode 75) 56 = .ok (.getfield 15, 3) := by decide +kernel
theorem d75_59 : decode (xcode 75) 59 = .ok (.iconst 0, 1) := by decide +kernel
theorem d75_60 : decode (xcode 75) 60 = .ok (.aload_n 0, 1) := by decide +kernel
theorem d75_61 : decode (xcode 75) 61 = .ok (.getfield 15, 3) := by decide +kernel
theorem d75_64 : decode (xcode 75) 64 = .ok (.iconst 0, 1) := by decide +kernel
theorem d75_65 : decode (xcode 75) 65 = .ok (.bipush 8, 2) := by decide +kernel
theorem d75_67 : decode (xcode 75) 67 = .ok (.invokestatic 44, 3) := by decide +kernel
theorem d75_70 : decode (xcode 75) 70 = .ok (.aload_n 1, 1) := by decide +kernel
theorem d75_71 : decode (xcode 75) 71 = .ok (.getfield 18, 3) := by decide +kernel
theorem d75_74 : decode (xcode 75) 74 = .ok (.iconst 0, 1) := by decide +kernel
theorem d75_75 : decode (xcode 75) 75 = .ok (.aload_n 0, 1) := by decide +kernel
theorem d75_76 : decode (xcode 75) 76 = .ok (.getfield 18, 3) := by decide +kernel
theorem d75_79 : decode (xcode 75) 79 = .ok (.iconst 0, 1) := by decide +kernel
theorem d75_80 : decode (xcode 75) 80 = .ok (.bipush 8, 2) := by decide +kernel
theorem d75_82 : decode (xcode 75) 82 = .ok (.invokestatic 44, 3) := by decide +kernel
theorem d75_85 : decode (xcode 75) 85 = .ok (.aload_n 1, 1) := by decide +kernel
theorem d75_86 : decode (xcode 75) 86 = .ok (.getfield 21, 3) := by decide +kernel
theorem d75_89 : decode (xcode 75) 89 = .ok (.iconst 0, 1) := by decide +kernel
theorem d75_90 : decode (xcode 75) 90 = .ok (.aload_n 0, 1) := by decide +kernel
theorem d75_91 : decode (xcode 75) 91 = .ok (.getfield 21, 3) := by decide +kernel
theorem d75_94 : decode (xcode 75) 94 = .ok (.iconst 0, 1) := by decide +kernel
theorem d75_95 : decode (xcode 75) 95 = .ok (.bipush 8, 2) := by decide +kernel
theorem d75_97 : decode (xcode 75) 97 = .ok (.invokestatic 44, 3) := by decide +kernel
theorem d75_100 : decode (xcode 75) 100 = .ok (.aload_n 1, 1) := by decide +kernel
theorem d75_101 : decode (xcode 75) 101 = .ok (.getfield 24, 3) := by decide +kernel
theorem d75_104 : decode (xcode 75) 104 = .ok (.iconst 0, 1) := by decide +kernel
theorem d75_105 : decode (xcode 75) 105 = .ok (.aload_n 0, 1) := by decide +kernel
theorem d75_106 : decode (xcode 75) 106 = .ok (.getfield 24, 3) := by decide +kernel
theorem d75_109 : decode (xcode 75) 109 = .ok (.iconst 0, 1) := by decide +kernel
theorem d75_110 : decode (xcode 75) 110 = .ok (.iconst 4, 1) := by decide +kernel
theorem d75_111 : decode (xcode 75) 111 = .ok (.invokestatic 44, 3) := by decide +kernel
theorem d75_114 : decode (xcode 75) 114 = .ok (.return_, 1) := by decide +kernel
noncomputable def f_Told_copyFrom_e (i0 : Nat) (i1 : Nat) (h : xH) : Option xH :=
  if (h.1 8 0 i1) = 0 ∨ (h.1 8 0 i1) = 1 then (
  xlet (xsI h 8 0 i0 (h.1 8 0 i1)) fun h1 =>
  xlet (xsI h1 8 1 i0 (h1.1 8 1 i1)) fun h3 =>
  xlet (xsI h3 8 2 i0 (h3.1 8 2 i1)) fun h4 =>
  xlet (xsI h4 8 3 i0 (h4.1 8 3 i1)) fun h5 =>
  xlet (xsI h5 8 4 i0 (h5.1 8 4 i1)) fun h6 =>
  if ¬ (0 : Int32) < 0 ∧ ¬ (0 : Int32) < 0 ∧ ¬ (8 : Int32) < 0 ∧ ((0 : Int32)).toNatClampNeg + ((8 : Int32)).toNatClampNeg ≤ 8 ∧ ((0 : Int32)).toNatClampNeg + ((8 : Int32)).toNatClampNeg ≤ 8 then (
  xlet (xsA h6 37 i0 (va_cpy (h6.2.2.2.1 37 i1) (h6.2.2.2.1 37 i0) ((0 : Int32)).toNatClampNeg ((0 : Int32)).toNatClampNeg ((8 : Int32)).toNatClampNeg)) fun h8 =>
  if ¬ (0 : Int32) < 0 ∧ ¬ (0 : Int32) < 0 ∧ ¬ (8 : Int32) < 0 ∧ ((0 : Int32)).toNatClampNeg + ((8 : Int32)).toNatClampNeg ≤ 8 ∧ ((0 : Int32)).toNatClampNeg + ((8 : Int32)).toNatClampNeg ≤ 8 then (
  xlet (xsA h8 38 i0 (va_cpy (h8.2.2.2.1 38 i1) (h8.2.2.2.1 38 i0) ((0 : Int32)).toNatClampNeg ((0 : Int32)).toNatClampNeg ((8 : Int32)).toNatClampNeg)) fun h10 =>
  if ¬ (0 : Int32) < 0 ∧ ¬ (0 : Int32) < 0 ∧ ¬ (8 : Int32) < 0 ∧ ((0 : Int32)).toNatClampNeg + ((8 : Int32)).toNatClampNeg ≤ 8 ∧ ((0 : Int32)).toNatClampNeg + ((8 : Int32)).toNatClampNeg ≤ 8 then (
  xlet (xsA h10 39 i0 (va_cpy (h10.2.2.2.1 39 i1) (h10.2.2.2.1 39 i0) ((0 : Int32)).toNatClampNeg ((0 : Int32)).toNatClampNeg ((8 : Int32)).toNatClampNeg)) fun h12 =>
  if ¬ (0 : Int32) < 0 ∧ ¬ (0 : Int32) < 0 ∧ ¬ (8 : Int32) < 0 ∧ ((0 : Int32)).toNatClampNeg + ((8 : Int32)).toNatClampNeg ≤ 8 ∧ ((0 : Int32)).toNatClampNeg + ((8 : Int32)).toNatClampNeg ≤ 8 then (
  xlet (xsA h12 40 i0 (va_cpy (h12.2.2.2.1 40 i1) (h12.2.2.2.1 40 i0) ((0 : Int32)).toNatClampNeg ((0 : Int32)).toNatClampNeg ((8 : Int32)).toNatClampNeg)) fun h14 =>
  if ¬ (0 : Int32) < 0 ∧ ¬ (0 : Int32) < 0 ∧ ¬ (4 : Int32) < 0 ∧ ((0 : Int32)).toNatClampNeg + ((4 : Int32)).toNatClampNeg ≤ 4 ∧ ((0 : Int32)).toNatClampNeg + ((4 : Int32)).toNatClampNeg ≤ 4 then (
  xlet (xsA h14 41 i0 (va_cpy (h14.2.2.2.1 41 i1) (h14.2.2.2.1 41 i0) ((0 : Int32)).toNatClampNeg ((0 : Int32)).toNatClampNeg ((4 : Int32)).toNatClampNeg)) fun h16 =>
  some (h16)) else none) else none) else none) else none) else none) else none
set_option maxHeartbeats 4000000 in
set_option maxRecDepth 100000 in
theorem f_Told_copyFrom_e_ok {g : xG} {l : Launch} {d : Nat} {i0 : Nat} {i1 : Nat} {h : xH} {o : xH} {R : Option xV} {H' : xH} (hD : 1 ≤ d) (hf : f_Told_copyFrom_e i0 i1 h = some o) (K0 : ∀ (h1 : xH), o = h1 → R = none ∧ H' = h1) : xEv g l d 75 0 [(0, xr 8 (some i0)), (1, xr 8 (some i1))] [] h R H' := by
  unfold f_Told_copyFrom_e at hf
  refine xs_aload_n d75_0 rfl ?_
  refine xs_aload_n d75_1 rfl ?_
  refine xe_geti d75_2 ky75 fl17 fk8_0 ?_
  obtain ⟨hz2, hf⟩ := lk_g hf
  obtain ⟨h1, eh1, hf⟩ := lk_let hf
  refine xe_putz d75_5 ky75 fl17 fk8_0 ft8_0 hz2 eh1 ?_
  refine xs_aload_n d75_8 rfl ?_
  refine xs_aload_n d75_9 rfl ?_
  refine xe_geti d75_10 ky75 fl20 fk8_1 ?_
  obtain ⟨h3, eh3, hf⟩ := lk_let hf
  refine xe_puti d75_13 ky75 fl20 fk8_1 ft8_1 eh3 ?_
  refine xs_aload_n d75_16 rfl ?_
  refine xs_aload_n d75_17 rfl ?_
  refine xe_geti d75_18 ky75 fl25 fk8_2 ?_
  obtain ⟨h4, eh4, hf⟩ := lk_let hf
  refine xe_puti d75_21 ky75 fl25 fk8_2 ft8_2 eh4 ?_
  refine xs_aload_n d75_24 rfl ?_
  refine xs_aload_n d75_25 rfl ?_
  refine xe_geti d75_26 ky75 fl30 fk8_3 ?_
  obtain ⟨h5, eh5, hf⟩ := lk_let hf
  refine xe_puti d75_29 ky75 fl30 fk8_3 ft8_3 eh5 ?_
  refine xs_aload_n d75_32 rfl ?_
  refine xs_aload_n d75_33 rfl ?_
  refine xe_geti d75_34 ky75 fl33 fk8_4 ?_
  obtain ⟨h6, eh6, hf⟩ := lk_let hf
  refine xe_puti d75_37 ky75 fl33 fk8_4 ft8_4 eh6 ?_
  refine xs_aload_n d75_40 rfl ?_
  refine xe_getc (j := i1) d75_41 ky75 fl37 fk8_5 (by omega) ?_
  refine xs_iconst (v := 0) d75_44 (by decide) ?_
  refine xs_aload_n d75_45 rfl ?_
  refine xe_getc (j := i0) d75_46 ky75 fl37 fk8_5 (by omega) ?_
  refine xs_iconst (v := 0) d75_49 (by decide) ?_
  refine xs_bipush (v := 8) d75_50 (by decide) ?_
  obtain ⟨hin7, hf⟩ := lk_g hf
  obtain ⟨h8, eh8, hf⟩ := lk_let hf
  refine xe_copy d75_52 ky75 cp8_44 cpw (by decide) ak37 (by decide) ak37 hin7 (Nat.le_of_ble_eq_true rfl) (by omega) eh8 ?_
  refine xs_aload_n d75_55 rfl ?_
  refine xe_getc (j := i1) d75_56 ky75 fl40 fk8_6 (by omega) ?_
  refine xs_iconst (v := 0) d75_59 (by decide) ?_
  refine xs_aload_n d75_60 rfl ?_
  refine xe_getc (j := i0) d75_61 ky75 fl40 fk8_6 (by omega) ?_
  refine xs_iconst (v := 0) d75_64 (by decide) ?_
  refine xs_bipush (v := 8) d75_65 (by decide) ?_
  obtain ⟨hin9, hf⟩ := lk_g hf
  obtain ⟨h10, eh10, hf⟩ := lk_let hf
  refine xe_copy d75_67 ky75 cp8_44 cpw (by decide) ak38 (by decide) ak38 hin9 (Nat.le_of_ble_eq_true rfl) (by omega) eh10 ?_
  refine xs_aload_n d75_70 rfl ?_
  refine xe_getc (j := i1) d75_71 ky75 fl43 fk8_7 (by omega) ?_
  refine xs_iconst (v := 0) d75_74 (by decide) ?_
  refine xs_aload_n d75_75 rfl ?_
  refine xe_getc (j := i0) d75_76 ky75 fl43 fk8_7 (by omega) ?_
  refine xs_iconst (v := 0) d75_79 (by decide) ?_
  refine xs_bipush (v := 8) d75_80 (by decide) ?_
  obtain ⟨hin11, hf⟩ := lk_g hf
  obtain ⟨h12, eh12, hf⟩ := lk_let hf
  refine xe_copy d75_82 ky75 cp8_44 cpw (by decide) ak39 (by decide) ak39 hin11 (Nat.le_of_ble_eq_true rfl) (by omega) eh12 ?_
  refine xs_aload_n d75_85 rfl ?_
  refine xe_getc (j := i1) d75_86 ky75 fl48 fk8_8 (by omega) ?_
  refine xs_iconst (v := 0) d75_89 (by decide) ?_
  refine xs_aload_n d75_90 rfl ?_
  refine xe_getc (j := i0) d75_91 ky75 fl48 fk8_8 (by omega) ?_
  refine xs_iconst (v := 0) d75_94 (by decide) ?_
  refine xs_bipush (v := 8) d75_95 (by decide) ?_
  obtain ⟨hin13, hf⟩ := lk_g hf
  obtain ⟨h14, eh14, hf⟩ := lk_let hf
  refine xe_copy d75_97 ky75 cp8_44 cpw (by decide) ak40 (by decide) ak40 hin13 (Nat.le_of_ble_eq_true rfl) (by omega) eh14 ?_
  refine xs_aload_n d75_100 rfl ?_
  refine xe_getc (j := i1) d75_101 ky75 fl51 fk8_9 (by omega) ?_
  refine xs_iconst (v := 0) d75_104 (by decide) ?_
  refine xs_aload_n d75_105 rfl ?_
  refine xe_getc (j := i0) d75_106 ky75 fl51 fk8_9 (by omega) ?_
  refine xs_iconst (v := 0) d75_109 (by decide) ?_
  refine xs_iconst (v := 4) d75_110 (by decide) ?_
  obtain ⟨hin15, hf⟩ := lk_g hf
  obtain ⟨h16, eh16, hf⟩ := lk_let hf
  refine xe_copy d75_111 ky75 cp8_44 cpw (by decide) ak41 (by decide) ak41 hin15 (Nat.le_of_ble_eq_true rfl) (by omega) eh16 ?_
  obtain ⟨eR, eH⟩ := K0 _ (Option.some.inj hf).symm
  subst eR; subst eH
  exact xs_vret d75_114 rt75
noncomputable def f_Told_copyFrom (i0 : Nat) (i1 : Nat) (h : xH) : Option xH := f_Told_copyFrom_e i0 i1 h
theorem f_Told_copyFrom_ok {g : xG} {l : Launch} {d : Nat} {i0 : Nat} {i1 : Nat} {h : xH} {h1 : xH} (hD : 1 ≤ d) (hf : f_Told_copyFrom i0 i1 h = some h1) : xC g l d 75 [xr 8 (some i0), xr 8 (some i1)] h none h1 :=
  xC_of2 (by decide) mx75 (Nat.le_of_ble_eq_true rfl) (f_Told_copyFrom_e_ok hD hf (fun _ e => ⟨rfl, e⟩))
theorem d24_0 : decode (xcode 24) 0 = .ok (.aload_n 0, 1) := by decide +kernel
theorem d24_1 : decode (xcode 24) 1 = .ok (.getfield 12, 3) := by decide +kernel
theorem d24_4 : decode (xcode 24) 4 = .ok (.aload_n 1, 1) := by decide +kernel
theorem d24_5 : decode (xcode 24) 5 = .ok (.getfield 12, 3) := by decide +kernel
theorem d24_8 : decode (xcode 24) 8 = .ok (.invokevirtual 36, 3) := by decide +kernel
theorem d24_11 : decode (xcode 24) 11 = .ok (.aload_n 0, 1) := by decide +kernel
theorem d24_12 : decode (xcode 24) 12 = .ok (.getfield 21, 3) := by decide +kernel
theorem d24_15 : decode (xcode 24) 15 = .ok (.aload_n 1, 1) := by decide +kernel
theorem d24_16 : decode (xcode 24) 16 = .ok (.getfield 21, 3) := by decide +kernel
theorem d24_19 : decode (xcode 24) 19 = .ok (.invokevirtual 40, 3) := by decide +kernel
theorem d24_22 : decode (xcode 24) 22 = .ok (.aload_n 0, 1) := by decide +kernel
theorem d24_23 : decode (xcode 24) 23 = .ok (.aload_n 1, 1) := by decide +kernel
theorem d24_24 : decode (xcode 24) 24 = .ok (.getfield 25, 3) := by decide +kernel
theorem d24_27 : decode (xcode 24) 27 = .ok (.putfield 25, 3) := by decide +kernel
theorem d24_30 : decode (xcode 24) 30 = .ok (.aload_n 0, 1) := by decide +kernel
theorem d24_31 : decode (xcode 24) 31 = .ok (.aload_n 1, 1) := by decide +kernel
theorem d24_32 : decode (xcode 24) 32 = .ok (.getfield 43, 3) := by decide +kernel
theorem d24_35 : decode (xcode 24) 35 = .ok (.putfield 43, 3) := by decide +kernel
theorem d24_38 : decode (xcode 24) 38 = .ok (.aload_n 0, 1) := by decide +kernel
theorem d24_39 : decode (xcode 24) 39 = .ok (.aload_n 1, 1) := by decide +kernel
theorem d24_40 : decode (xcode 24) 40 = .ok (.getfield 46, 3) := by decide +kernel
theorem d24_43 : decode (xcode 24) 43 = .ok (.putfield 46, 3) := by decide +kernel
theorem d24_46 : decode (xcode 24) 46 = .ok (.aload_n 1, 1) := by decide +kernel
theorem d24_47 : decode (xcode 24) 47 = .ok (.getfield 29, 3) := by decide +kernel
theorem d24_50 : decode (xcode 24) 50 = .ok (.iconst 0, 1) := by decide +kernel
theorem d24_51 : decode (xcode 24) 51 = .ok (.aload_n 0, 1) := by decide +kernel
theorem d24_52 : decode (xcode 24) 52 = .ok (.getfield 29, 3) := by decide +kernel
theorem d24_55 : decode (xcode 24) 55 = .ok (.iconst 0, 1) := by decide +kernel
theorem d24_56 : decode (xcode 24) 56 = .ok (.bipush 10, 2) := by decide +kernel
theorem d24_58 : decode (xcode 24) 58 = .ok (.invokestatic 49, 3) := by decide +kernel
theorem d24_61 : decode (xcode 24) 61 = .ok (.aload_n 1, 1) := by decide +kernel
theorem d24_62 : decode (xcode 24) 62 = .ok (.getfield 33, 3) := by decide +kernel
theorem d24_65 : decode (xcode 24) 65 = .ok (.iconst 0, 1) := by decide +kernel
theorem d24_66 : decode (xcode 24) 66 = .ok (.aload_n 0, 1) := by decide +kernel
theorem d24_67 : decode (xcode 24) 67 = .ok (.getfield 33, 3) := by decide +kernel
theorem d24_70 : decode (xcode 24) 70 = .ok (.iconst 0, 1) := by decide +kernel
theorem d24_71 : decode (xcode 24) 71 = .ok (.bipush 10, 2) := by decide +kernel
theorem d24_73 : decode (xcode 24) 73 = .ok (.invokestatic 49, 3) := by decide +kernel
theorem d24_76 : decode (xcode 24) 76 = .ok (.return_, 1) := by decide +kernel
noncomputable def f_Scene_copyFrom_e (i0 : Nat) (i1 : Nat) (h : xH) : Option xH :=
  (f_Told_copyFrom i0 i1 h).bind fun h3 =>
  (f_State_copyFrom i0 i1 h3).bind fun h6 =>
  xlet (xsI h6 4 2 i0 (h6.1 4 2 i1)) fun h7 =>
  xlet (xsI h7 4 3 i0 (h7.1 4 3 i1)) fun h8 =>
  xlet (xsI h8 4 4 i0 (h8.1 4 4 i1)) fun h9 =>
  if ¬ (0 : Int32) < 0 ∧ ¬ (0 : Int32) < 0 ∧ ¬ (10 : Int32) < 0 ∧ ((0 : Int32)).toNatClampNeg + ((10 : Int32)).toNatClampNeg ≤ 10 ∧ ((0 : Int32)).toNatClampNeg + ((10 : Int32)).toNatClampNeg ≤ 10 then (
  xlet (xsA h9 20 i0 (va_cpy (h9.2.2.2.1 20 i1) (h9.2.2.2.1 20 i0) ((0 : Int32)).toNatClampNeg ((0 : Int32)).toNatClampNeg ((10 : Int32)).toNatClampNeg)) fun h11 =>
  if ¬ (0 : Int32) < 0 ∧ ¬ (0 : Int32) < 0 ∧ ¬ (10 : Int32) < 0 ∧ ((0 : Int32)).toNatClampNeg + ((10 : Int32)).toNatClampNeg ≤ 10 ∧ ((0 : Int32)).toNatClampNeg + ((10 : Int32)).toNatClampNeg ≤ 10 then (
  xlet (xsA h11 21 i0 (va_cpy (h11.2.2.2.1 21 i1) (h11.2.2.2.1 21 i0) ((0 : Int32)).toNatClampNeg ((0 : Int32)).toNatClampNeg ((10 : Int32)).toNatClampNeg)) fun h13 =>
  some (h13)) else none) else none
set_option maxHeartbeats 4000000 in
set_option maxRecDepth 100000 in
theorem f_Scene_copyFrom_e_ok {g : xG} {l : Launch} {d : Nat} {i0 : Nat} {i1 : Nat} {h : xH} {o : xH} {R : Option xV} {H' : xH} (hD : 2 ≤ d) (hf : f_Scene_copyFrom_e i0 i1 h = some o) (K0 : ∀ (h1 : xH), o = h1 → R = none ∧ H' = h1) : xEv g l d 24 0 [(0, xr 4 (some i0)), (1, xr 4 (some i1))] [] h R H' := by
  unfold f_Scene_copyFrom_e at hf
  refine xs_aload_n d24_0 rfl ?_
  refine xe_getc (j := i0) d24_1 ky24 fl95 fk4_0 (by omega) ?_
  refine xs_aload_n d24_4 rfl ?_
  refine xe_getc (j := i1) d24_5 ky24 fl95 fk4_0 (by omega) ?_
  obtain ⟨h3, hc2, hf⟩ := lk_b hf
  refine xe_callv0 (as := [xr 8 (some i1)]) (st := []) (h2 := h3) (d2 := d - 1) d24_8 ky24 ml176 st75 (by decide) cn75 rfl na75 (Nat.le_of_ble_eq_true rfl) (by omega) (f_Told_copyFrom_ok (by omega) hc2) ?_
  refine xs_aload_n d24_11 rfl ?_
  refine xe_getc (j := i0) d24_12 ky24 fl97 fk4_1 (by omega) ?_
  refine xs_aload_n d24_15 rfl ?_
  refine xe_getc (j := i1) d24_16 ky24 fl97 fk4_1 (by omega) ?_
  obtain ⟨h6, hc5, hf⟩ := lk_b hf
  refine xe_callv0 (as := [xr 6 (some i1)]) (st := []) (h2 := h6) (d2 := d - 1) d24_19 ky24 ml177 st46 (by decide) cn46 rfl na46 (Nat.le_of_ble_eq_true rfl) (by omega) (f_State_copyFrom_ok (by omega) hc5) ?_
  refine xs_aload_n d24_22 rfl ?_
  refine xs_aload_n d24_23 rfl ?_
  refine xe_geti d24_24 ky24 fl99 fk4_2 ?_
  obtain ⟨h7, eh7, hf⟩ := lk_let hf
  refine xe_puti d24_27 ky24 fl99 fk4_2 ft4_2 eh7 ?_
  refine xs_aload_n d24_30 rfl ?_
  refine xs_aload_n d24_31 rfl ?_
  refine xe_geti d24_32 ky24 fl101 fk4_3 ?_
  obtain ⟨h8, eh8, hf⟩ := lk_let hf
  refine xe_puti d24_35 ky24 fl101 fk4_3 ft4_3 eh8 ?_
  refine xs_aload_n d24_38 rfl ?_
  refine xs_aload_n d24_39 rfl ?_
  refine xe_geti d24_40 ky24 fl103 fk4_4 ?_
  obtain ⟨h9, eh9, hf⟩ := lk_let hf
  refine xe_puti d24_43 ky24 fl103 fk4_4 ft4_4 eh9 ?_
  refine xs_aload_n d24_46 rfl ?_
  refine xe_getc (j := i1) d24_47 ky24 fl105 fk4_5 (by omega) ?_
  refine xs_iconst (v := 0) d24_50 (by decide) ?_
  refine xs_aload_n d24_51 rfl ?_
  refine xe_getc (j := i0) d24_52 ky24 fl105 fk4_5 (by omega) ?_
  refine xs_iconst (v := 0) d24_55 (by decide) ?_
  refine xs_bipush (v := 10) d24_56 (by decide) ?_
  obtain ⟨hin10, hf⟩ := lk_g hf
  obtain ⟨h11, eh11, hf⟩ := lk_let hf
  refine xe_copy d24_58 ky24 cp4_49 cpw (by decide) ak20 (by decide) ak20 hin10 (Nat.le_of_ble_eq_true rfl) (by omega) eh11 ?_
  refine xs_aload_n d24_61 rfl ?_
  refine xe_getc (j := i1) d24_62 ky24 fl106 fk4_6 (by omega) ?_
  refine xs_iconst (v := 0) d24_65 (by decide) ?_
  refine xs_aload_n d24_66 rfl ?_
  refine xe_getc (j := i0) d24_67 ky24 fl106 fk4_6 (by omega) ?_
  refine xs_iconst (v := 0) d24_70 (by decide) ?_
  refine xs_bipush (v := 10) d24_71 (by decide) ?_
  obtain ⟨hin12, hf⟩ := lk_g hf
  obtain ⟨h13, eh13, hf⟩ := lk_let hf
  refine xe_copy d24_73 ky24 cp4_49 cpw (by decide) ak21 (by decide) ak21 hin12 (Nat.le_of_ble_eq_true rfl) (by omega) eh13 ?_
  obtain ⟨eR, eH⟩ := K0 _ (Option.some.inj hf).symm
  subst eR; subst eH
  exact xs_vret d24_76 rt24
noncomputable def f_Scene_copyFrom (i0 : Nat) (i1 : Nat) (h : xH) : Option xH := f_Scene_copyFrom_e i0 i1 h
theorem f_Scene_copyFrom_ok {g : xG} {l : Launch} {d : Nat} {i0 : Nat} {i1 : Nat} {h : xH} {h1 : xH} (hD : 2 ≤ d) (hf : f_Scene_copyFrom i0 i1 h = some h1) : xC g l d 24 [xr 4 (some i0), xr 4 (some i1)] h none h1 :=
  xC_of2 (by decide) mx24 (Nat.le_of_ble_eq_true rfl) (f_Scene_copyFrom_e_ok hD hf (fun _ e => ⟨rfl, e⟩))
theorem d25_0 : decode (xcode 25) 0 = .ok (.aload_n 0, 1) := by decide +kernel
theorem d25_1 : decode (xcode 25) 1 = .ok (.getfield 46, 3) := by decide +kernel
theorem d25_4 : decode (xcode 25) 4 = .ok (.ifCond .lt 42, 3) := by decide +kernel
theorem d25_7 : decode (xcode 25) 7 = .ok (.aload_n 0, 1) := by decide +kernel
theorem d25_8 : decode (xcode 25) 8 = .ok (.getfield 46, 3) := by decide +kernel
theorem d25_11 : decode (xcode 25) 11 = .ok (.bipush 10, 2) := by decide +kernel
theorem d25_13 : decode (xcode 25) 13 = .ok (.if_icmp .ge 33, 3) := by decide +kernel
theorem d25_16 : decode (xcode 25) 16 = .ok (.aload_n 0, 1) := by decide +kernel
theorem d25_17 : decode (xcode 25) 17 = .ok (.getfield 29, 3) := by decide +kernel
theorem d25_20 : decode (xcode 25) 20 = .ok (.aload_n 0, 1) := by decide +kernel
theorem d25_21 : decode (xcode 25) 21 = .ok (.getfield 46, 3) := by decide +kernel
theorem d25_24 : decode (xcode 25) 24 = .ok (.iload_n 1, 1) := by decide +kernel
theorem d25_25 : decode (xcode 25) 25 = .ok (.iastore, 1) := by decide +kernel
theorem d25_26 : decode (xcode 25) 26 = .ok (.aload_n 0, 1) := by decide +kernel
theorem d25_27 : decode (xcode 25) 27 = .ok (.getfield 33, 3) := by decide +kernel
theorem d25_30 : decode (xcode 25) 30 = .ok (.aload_n 0, 1) := by decide +kernel
theorem d25_31 : decode (xcode 25) 31 = .ok (.getfield 46, 3) := by decide +kernel
theorem d25_34 : decode (xcode 25) 34 = .ok (.iload_n 2, 1) := by decide +kernel
theorem d25_35 : decode (xcode 25) 35 = .ok (.iastore, 1) := by decide +kernel
theorem d25_36 : decode (xcode 25) 36 = .ok (.aload_n 0, 1) := by decide +kernel
theorem d25_37 : decode (xcode 25) 37 = .ok (.dup, 1) := by decide +kernel
theorem d25_38 : decode (xcode 25) 38 = .ok (.getfield 46, 3) := by decide +kernel
theorem d25_41 : decode (xcode 25) 41 = .ok (.iconst 1, 1) := by decide +kernel
theorem d25_42 : decode (xcode 25) 42 = .ok (.iadd, 1) := by decide +kernel
theorem d25_43 : decode (xcode 25) 43 = .ok (.putfield 46, 3) := by decide +kernel
theorem d25_46 : decode (xcode 25) 46 = .ok (.return_, 1) := by decide +kernel
noncomputable def f_Scene_keepNote_e (i0 : Nat) (v1 : Int32) (v2 : Int32) (h : xH) : Option xH :=
  if (h.1 4 4 i0) < (0 : Int32) then (
  some (h)) else (
  if (10 : Int32) ≤ (h.1 4 4 i0) then (
  some (h)) else (
  if xib (h.1 4 4 i0) 10 then (
  xlet (xsA h 20 i0 (upd (h.2.2.2.1 20 i0) (h.1 4 4 i0).toNatClampNeg v1)) fun h4 =>
  if xib (h4.1 4 4 i0) 10 then (
  xlet (xsA h4 21 i0 (upd (h4.2.2.2.1 21 i0) (h4.1 4 4 i0).toNatClampNeg v2)) fun h6 =>
  xlet (xsI h6 4 4 i0 ((h6.1 4 4 i0) + (1 : Int32))) fun h7 =>
  some (h7)) else none) else none))
set_option maxHeartbeats 4000000 in
set_option maxRecDepth 100000 in
theorem f_Scene_keepNote_e_ok {g : xG} {l : Launch} {d : Nat} {i0 : Nat} {v1 : Int32} {v2 : Int32} {h : xH} {o : xH} {R : Option xV} {H' : xH} (hD : 0 ≤ d) (hf : f_Scene_keepNote_e i0 v1 v2 h = some o) (K0 : ∀ (h1 : xH), o = h1 → R = none ∧ H' = h1) : xEv g l d 25 0 [(0, xr 4 (some i0)), (1, xi v1), (2, xi v2)] [] h R H' := by
  unfold f_Scene_keepNote_e at hf
  refine xs_aload_n d25_0 rfl ?_
  refine xe_geti d25_1 ky25 fl103 fk4_4 ?_
  rcases lk_if hf with ⟨hc1, hf⟩ | ⟨hc1, hf⟩
  · refine xs_if_lt (tgt := 46) d25_4 (by decide) (fun _ => ?_) (fun hn => absurd hc1 hn)
    obtain ⟨eR, eH⟩ := K0 _ (Option.some.inj hf).symm
    subst eR; subst eH
    exact xs_vret d25_46 rt25
  · refine xs_if_lt (tgt := 46) d25_4 (by decide) (fun hp => absurd hp hc1) (fun _ => ?_)
    refine xs_aload_n d25_7 rfl ?_
    refine xe_geti d25_8 ky25 fl103 fk4_4 ?_
    refine xs_bipush (v := 10) d25_11 (by decide) ?_
    rcases lk_if hf with ⟨hc2, hf⟩ | ⟨hc2, hf⟩
    · refine xs_icmp_ge (tgt := 46) d25_13 (by decide) (fun _ => ?_) (fun hn => absurd hc2 hn)
      obtain ⟨eR, eH⟩ := K0 _ (Option.some.inj hf).symm
      subst eR; subst eH
      exact xs_vret d25_46 rt25
    · refine xs_icmp_ge (tgt := 46) d25_13 (by decide) (fun hp => absurd hp hc2) (fun _ => ?_)
      refine xs_aload_n d25_16 rfl ?_
      refine xe_getc (j := i0) d25_17 ky25 fl105 fk4_5 (by omega) ?_
      refine xs_aload_n d25_20 rfl ?_
      refine xe_geti d25_21 ky25 fl103 fk4_4 ?_
      refine xs_iload_n d25_24 rfl ?_
      obtain ⟨hin3, hf⟩ := lk_g hf
      obtain ⟨h4, eh4, hf⟩ := lk_let hf
      refine xe_iast d25_25 (by decide) ak20 hin3  eh4 ?_
      refine xs_aload_n d25_26 rfl ?_
      refine xe_getc (j := i0) d25_27 ky25 fl106 fk4_6 (by omega) ?_
      refine xs_aload_n d25_30 rfl ?_
      refine xe_geti d25_31 ky25 fl103 fk4_4 ?_
      refine xs_iload_n d25_34 rfl ?_
      obtain ⟨hin5, hf⟩ := lk_g hf
      obtain ⟨h6, eh6, hf⟩ := lk_let hf
      refine xe_iast d25_35 (by decide) ak21 hin5  eh6 ?_
      refine xs_aload_n d25_36 rfl ?_
      refine xs_dup d25_37 rfl ?_
      refine xe_geti d25_38 ky25 fl103 fk4_4 ?_
      refine xs_iconst (v := 1) d25_41 (by decide) ?_
      refine xs_iadd d25_42 ?_
      obtain ⟨h7, eh7, hf⟩ := lk_let hf
      refine xe_puti d25_43 ky25 fl103 fk4_4 ft4_4 eh7 ?_
      obtain ⟨eR, eH⟩ := K0 _ (Option.some.inj hf).symm
      subst eR; subst eH
      exact xs_vret d25_46 rt25
noncomputable def f_Scene_keepNote (i0 : Nat) (v1 : Int32) (v2 : Int32) (h : xH) : Option xH := f_Scene_keepNote_e i0 v1 v2 h
theorem f_Scene_keepNote_ok {g : xG} {l : Launch} {d : Nat} {i0 : Nat} {v1 : Int32} {v2 : Int32} {h : xH} {h1 : xH} (hD : 0 ≤ d) (hf : f_Scene_keepNote i0 v1 v2 h = some h1) : xC g l d 25 [xr 4 (some i0), xi v1, xi v2] h none h1 :=
  xC_of2 (by decide) mx25 (Nat.le_of_ble_eq_true rfl) (f_Scene_keepNote_e_ok hD hf (fun _ e => ⟨rfl, e⟩))
theorem d26_0 : decode (xcode 26) 0 = .ok (.iconst (-1), 1) := by decide +kernel
theorem d26_1 : decode (xcode 26) 1 = .ok (.istore_n 1, 1) := by decide +kernel
theorem d26_2 : decode (xcode 26) 2 = .ok (.iconst 0, 1) := by decide +kernel
theorem d26_3 : decode (xcode 26) 3 = .ok (.istore_n 2, 1) := by decide +kernel
theorem d26_4 : decode (xcode 26) 4 = .ok (.iload_n 2, 1) := by decide +kernel
theorem d26_5 : decode (xcode 26) 5 = .ok (.aload_n 0, 1) := by decide +kernel
theorem d26_6 : decode (xcode 26) 6 = .ok (.getfield 46, 3) := by decide +kernel
theorem d26_9 : decode (xcode 26) 9 = .ok (.if_icmp .ge 26, 3) := by decide +kernel
theorem d26_12 : decode (xcode 26) 12 = .ok (.iload_n 2, 1) := by decide +kernel
theorem d26_13 : decode (xcode 26) 13 = .ok (.bipush 10, 2) := by decide +kernel
theorem d26_15 : decode (xcode 26) 15 = .ok (.if_icmp .ge 20, 3) := by decide +kernel
theorem d26_18 : decode (xcode 26) 18 = .ok (.iload_n 1, 1) := by decide +kernel
theorem d26_19 : decode (xcode 26) 19 = .ok (.aload_n 0, 1) := by decide +kernel
theorem d26_20 : decode (xcode 26) 20 = .ok (.getfield 29, 3) := by decide +kernel
theorem d26_23 : decode (xcode 26) 23 = .ok (.iload_n 2, 1) := by decide +kernel
theorem d26_24 : decode (xcode 26) 24 = .ok (.iaload, 1) := by decide +kernel
theorem d26_25 : decode (xcode 26) 25 = .ok (.invokestatic 55, 3) := by decide +kernel
theorem d26_28 : decode (xcode 26) 28 = .ok (.istore_n 1, 1) := by decide +kernel
theorem d26_29 : decode (xcode 26) 29 = .ok (.iinc 2 1, 3) := by decide +kernel
theorem d26_32 : decode (xcode 26) 32 = .ok (.goto (-28), 3) := by decide +kernel
theorem d26_35 : decode (xcode 26) 35 = .ok (.iload_n 1, 1) := by decide +kernel
theorem d26_36 : decode (xcode 26) 36 = .ok (.ireturn, 1) := by decide +kernel
noncomputable def f_Scene_lastNoted_s4 (i0 : Nat) (v1 : Int32) (v2 : Int32) (h : xH) : Option ((Int32 × Int32) ⊕ Int32) :=
  if (h.1 4 4 i0) ≤ v2 then (
  some (Sum.inr (v1))) else (
  if (10 : Int32) ≤ v2 then (
  some (Sum.inr (v1))) else (
  if xib v2 10 then (
  (f_Math_max v1 (h.2.2.2.1 20 i0 (v2).toNatClampNeg) h).bind fun r4 =>
  xlet (v2 + (1 : Int32)) fun v2_6 =>
  some (Sum.inl (r4, v2_6))) else none))
set_option maxHeartbeats 4000000 in
set_option maxRecDepth 100000 in
theorem f_Scene_lastNoted_s4_ok {g : xG} {l : Launch} {d : Nat} {i0 : Nat} {v1 : Int32} {v2 : Int32} {h : xH} {o : ((Int32 × Int32) ⊕ Int32)} {R : Option xV} (hD : 1 ≤ d) (hf : f_Scene_lastNoted_s4 i0 v1 v2 h = some o) (K1 : ∀ (w1 : Int32) (w2 : Int32), o = Sum.inl (w1, w2) → xEv g l d 26 4 [(0, xr 4 (some i0)), (1, xi w1), (2, xi w2)] [] h R h) (K0 : ∀ (a : Int32), o = Sum.inr (a) → R = some (xi a)) : xEv g l d 26 4 [(0, xr 4 (some i0)), (1, xi v1), (2, xi v2)] [] h R h := by
  unfold f_Scene_lastNoted_s4 at hf
  refine xs_iload_n d26_4 rfl ?_
  refine xs_aload_n d26_5 rfl ?_
  refine xe_geti d26_6 ky26 fl103 fk4_4 ?_
  rcases lk_if hf with ⟨hc1, hf⟩ | ⟨hc1, hf⟩
  · refine xs_icmp_ge (tgt := 35) d26_9 (by decide) (fun _ => ?_) (fun hn => absurd hc1 hn)
    refine xs_iload_n d26_35 rfl ?_
    obtain eR := K0 _ (Option.some.inj hf).symm
    subst eR
    exact xs_iret d26_36 rt26
  · refine xs_icmp_ge (tgt := 35) d26_9 (by decide) (fun hp => absurd hp hc1) (fun _ => ?_)
    refine xs_iload_n d26_12 rfl ?_
    refine xs_bipush (v := 10) d26_13 (by decide) ?_
    rcases lk_if hf with ⟨hc2, hf⟩ | ⟨hc2, hf⟩
    · refine xs_icmp_ge (tgt := 35) d26_15 (by decide) (fun _ => ?_) (fun hn => absurd hc2 hn)
      refine xs_iload_n d26_35 rfl ?_
      obtain eR := K0 _ (Option.some.inj hf).symm
      subst eR
      exact xs_iret d26_36 rt26
    · refine xs_icmp_ge (tgt := 35) d26_15 (by decide) (fun hp => absurd hp hc2) (fun _ => ?_)
      refine xs_iload_n d26_18 rfl ?_
      refine xs_aload_n d26_19 rfl ?_
      refine xe_getc (j := i0) d26_20 ky26 fl105 fk4_5 (by omega) ?_
      refine xs_iload_n d26_23 rfl ?_
      obtain ⟨hin3, hf⟩ := lk_g hf
      refine xe_iald d26_24 (by decide) ak20 hin3 ?_
      obtain ⟨r4, hc5, hf⟩ := lk_b hf
      refine xe_calls1 (as := [xi v1, xi (h.2.2.2.1 20 i0 (v2).toNatClampNeg)]) (st := []) (h2 := h) (d2 := d - 1) d26_25 ky26 ml160 st256 rfl na256 (Nat.le_of_ble_eq_true rfl) (by omega) (f_Math_max_ok (by omega) hc5) ?_
      refine xe_istore_n (v := r4) (ls2 := [(0, xr 4 (some i0)), (1, xi r4), (2, xi v2)]) d26_28 mx26 (by decide) rfl rfl ?_
      obtain ⟨v2_6, ev2_6, hf⟩ := lk_let hf
      refine xe_iinc (v := v2_6) (b := 1) (ls2 := [(0, xr 4 (some i0)), (1, xi r4), (2, xi v2_6)]) d26_29 mx26 (by decide) rfl (by decide) ev2_6 rfl ?_
      refine xs_goto (tgt := 4) d26_32 (by decide) ?_
      exact K1 _ _ (Option.some.inj hf).symm
noncomputable def f_Scene_lastNoted_l4 (i0 : Nat) (v1 : Int32) (v2 : Int32) (h : xH) : Option Int32 :=
  whl (fun s => f_Scene_lastNoted_s4 i0 s.1 s.2 h) (v1, v2)
theorem f_Scene_lastNoted_l4_ok {g : xG} {l : Launch} {d : Nat} {i0 : Nat} {v1 : Int32} {v2 : Int32} {h : xH} {o : Int32} {R : Option xV} (hD : 1 ≤ d) (hf : f_Scene_lastNoted_l4 i0 v1 v2 h = some o) (K0 : ∀ (a : Int32), o = a → R = some (xi a)) : xEv g l d 26 4 [(0, xr 4 (some i0)), (1, xi v1), (2, xi v2)] [] h R h := by
  obtain ⟨n, hn⟩ := whl_iff.mp hf
  clear hf
  induction n generalizing v1 v2 with
  | zero => cases hn
  | succ n ih =>
    obtain ⟨o2, hs, hn⟩ := lk_b (show (f_Scene_lastNoted_s4 i0 v1 v2 h).bind (fun o => Sum.elim (itn _ n) some o) = some o from hn)
    exact f_Scene_lastNoted_s4_ok hD hs (fun u0 u1 e => ih (by rw [e] at hn; exact hn)) (fun u0 e => K0 u0 (by rw [e] at hn; exact (Option.some.inj hn).symm))
noncomputable def f_Scene_lastNoted_e (i0 : Nat) (h : xH) : Option Int32 :=
  f_Scene_lastNoted_l4 i0 (-1 : Int32) (0 : Int32) h
set_option maxHeartbeats 4000000 in
set_option maxRecDepth 100000 in
theorem f_Scene_lastNoted_e_ok {g : xG} {l : Launch} {d : Nat} {i0 : Nat} {h : xH} {o : Int32} {R : Option xV} (hD : 1 ≤ d) (hf : f_Scene_lastNoted_e i0 h = some o) (K0 : ∀ (a : Int32), o = a → R = some (xi a)) : xEv g l d 26 0 [(0, xr 4 (some i0))] [] h R h := by
  unfold f_Scene_lastNoted_e at hf
  refine xs_iconst (v := -1) d26_0 (by decide) ?_
  refine xe_istore_n (v := (-1 : Int32)) (ls2 := [(0, xr 4 (some i0)), (1, xi (-1 : Int32))]) d26_1 mx26 (by decide) rfl rfl ?_
  refine xs_iconst (v := 0) d26_2 (by decide) ?_
  refine xe_istore_n (v := (0 : Int32)) (ls2 := [(0, xr 4 (some i0)), (1, xi (-1 : Int32)), (2, xi (0 : Int32))]) d26_3 mx26 (by decide) rfl rfl ?_
  exact f_Scene_lastNoted_l4_ok hD hf K0
noncomputable def f_Scene_lastNoted (i0 : Nat) (h : xH) : Option Int32 := f_Scene_lastNoted_e i0 h
theorem f_Scene_lastNoted_ok {g : xG} {l : Launch} {d : Nat} {i0 : Nat} {h : xH} {r : Int32} (hD : 1 ≤ d) (hf : f_Scene_lastNoted i0 h = some r) : xC g l d 26 [xr 4 (some i0)] h (some (xi r)) h :=
  xC_of2 (by decide) mx26 (Nat.le_of_ble_eq_true rfl) (f_Scene_lastNoted_e_ok hD hf (fun _ e => by rw [e]))
theorem d27_0 : decode (xcode 27) 0 = .ok (.iconst 0, 1) := by decide +kernel
theorem d27_1 : decode (xcode 27) 1 = .ok (.istore_n 3, 1) := by decide +kernel
theorem d27_2 : decode (xcode 27) 2 = .ok (.iload_n 3, 1) := by decide +kernel
theorem d27_3 : decode (xcode 27) 3 = .ok (.aload_n 0, 1) := by decide +kernel
theorem d27_4 : decode (xcode 27) 4 = .ok (.getfield 46, 3) := by decide +kernel
theorem d27_7 : decode (xcode 27) 7 = .ok (.if_icmp .ge 37, 3) := by decide +kernel
theorem d27_10 : decode (xcode 27) 10 = .ok (.iload_n 3, 1) := by decide +kernel
theorem d27_11 : decode (xcode 27) 11 = .ok (.bipush 10, 2) := by decide +kernel
theorem d27_13 : decode (xcode 27) 13 = .ok (.if_icmp .ge 31, 3) := by decide +kernel
theorem d27_16 : decode (xcode 27) 16 = .ok (.aload_n 0, 1) := by decide +kernel
theorem d27_17 : decode (xcode 27) 17 = .ok (.getfield 29, 3) := by decide +kernel
theorem d27_20 : decode (xcode 27) 20 = .ok (.iload_n 3, 1) := by decide +kernel
theorem d27_21 : decode (xcode 27) 21 = .ok (.iaload, 1) := by decide +kernel
theorem d27_22 : decode (xcode 27) 22 = .ok (.iload_n 1, 1) := by decide +kernel
theorem d27_23 : decode (xcode 27) 23 = .ok (.if_icmp .ne 15, 3) := by decide +kernel
theorem d27_26 : decode (xcode 27) 26 = .ok (.aload_n 0, 1) := by decide +kernel
theorem d27_27 : decode (xcode 27) 27 = .ok (.getfield 33, 3) := by decide +kernel
theorem d27_30 : decode (xcode 27) 30 = .ok (.iload_n 3, 1) := by decide +kernel
theorem d27_31 : decode (xcode 27) 31 = .ok (.iaload, 1) := by decide +kernel
theorem d27_32 : decode (xcode 27) 32 = .ok (.iload_n 2, 1) := by decide +kernel
theorem d27_33 : decode (xcode 27) 33 = .ok (.if_icmp .eq 5, 3) := by decide +kernel
theorem d27_36 : decode (xcode 27) 36 = .ok (.iconst 0, 1) := by decide +kernel
theorem d27_37 : decode (xcode 27) 37 = .ok (.ireturn, 1) := by decide +kernel
theorem d27_38 : decode (xcode 27) 38 = .ok (.iinc 3 1, 3) := by decide +kernel
theorem d27_41 : decode (xcode 27) 41 = .ok (.goto (-39), 3) := by decide +kernel
theorem d27_44 : decode (xcode 27) 44 = .ok (.iconst 1, 1) := by decide +kernel
theorem d27_45 : decode (xcode 27) 45 = .ok (.ireturn, 1) := by decide +kernel
noncomputable def f_Scene_agrees_b38 (i0 : Nat) (v1 : Int32) (v2 : Int32) (v3 : Int32) (h : xH) : Option ((Int32) ⊕ Int32) :=
  xlet (v3 + (1 : Int32)) fun v3_7 =>
  some (Sum.inl v3_7)
set_option maxHeartbeats 4000000 in
set_option maxRecDepth 100000 in
theorem f_Scene_agrees_b38_ok {g : xG} {l : Launch} {d : Nat} {i0 : Nat} {v1 : Int32} {v2 : Int32} {v3 : Int32} {h : xH} {o : ((Int32) ⊕ Int32)} {R : Option xV} (hD : 0 ≤ d) (hf : f_Scene_agrees_b38 i0 v1 v2 v3 h = some o) (K1 : ∀ (w3 : Int32), o = Sum.inl w3 → xEv g l d 27 2 [(0, xr 4 (some i0)), (1, xi v1), (2, xi v2), (3, xi w3)] [] h R h) (K0 : ∀ (a : Int32), o = Sum.inr (a) → R = some (xi a)) : xEv g l d 27 38 [(0, xr 4 (some i0)), (1, xi v1), (2, xi v2), (3, xi v3)] [] h R h := by
  unfold f_Scene_agrees_b38 at hf
  obtain ⟨v3_7, ev3_7, hf⟩ := lk_let hf
  refine xe_iinc (v := v3_7) (b := 1) (ls2 := [(0, xr 4 (some i0)), (1, xi v1), (2, xi v2), (3, xi v3_7)]) d27_38 mx27 (by decide) rfl (by decide) ev3_7 rfl ?_
  refine xs_goto (tgt := 2) d27_41 (by decide) ?_
  exact K1 _ (Option.some.inj hf).symm
noncomputable def f_Scene_agrees_s2 (i0 : Nat) (v1 : Int32) (v2 : Int32) (v3 : Int32) (h : xH) : Option ((Int32) ⊕ Int32) :=
  if (h.1 4 4 i0) ≤ v3 then (
  some (Sum.inr ((1 : Int32)))) else (
  if (10 : Int32) ≤ v3 then (
  some (Sum.inr ((1 : Int32)))) else (
  if xib v3 10 then (
  if (h.2.2.2.1 20 i0 (v3).toNatClampNeg) = v1 then (
  if xib v3 10 then (
  if (h.2.2.2.1 21 i0 (v3).toNatClampNeg) = v2 then (
  f_Scene_agrees_b38 i0 v1 v2 v3 h) else (
  some (Sum.inr ((0 : Int32))))) else none) else (
  f_Scene_agrees_b38 i0 v1 v2 v3 h)) else none))
set_option maxHeartbeats 4000000 in
set_option maxRecDepth 100000 in
theorem f_Scene_agrees_s2_ok {g : xG} {l : Launch} {d : Nat} {i0 : Nat} {v1 : Int32} {v2 : Int32} {v3 : Int32} {h : xH} {o : ((Int32) ⊕ Int32)} {R : Option xV} (hD : 0 ≤ d) (hf : f_Scene_agrees_s2 i0 v1 v2 v3 h = some o) (K1 : ∀ (w3 : Int32), o = Sum.inl w3 → xEv g l d 27 2 [(0, xr 4 (some i0)), (1, xi v1), (2, xi v2), (3, xi w3)] [] h R h) (K0 : ∀ (a : Int32), o = Sum.inr (a) → R = some (xi a)) : xEv g l d 27 2 [(0, xr 4 (some i0)), (1, xi v1), (2, xi v2), (3, xi v3)] [] h R h := by
  unfold f_Scene_agrees_s2 at hf
  refine xs_iload_n d27_2 rfl ?_
  refine xs_aload_n d27_3 rfl ?_
  refine xe_geti d27_4 ky27 fl103 fk4_4 ?_
  rcases lk_if hf with ⟨hc1, hf⟩ | ⟨hc1, hf⟩
  · refine xs_icmp_ge (tgt := 44) d27_7 (by decide) (fun _ => ?_) (fun hn => absurd hc1 hn)
    refine xs_iconst (v := 1) d27_44 (by decide) ?_
    obtain eR := K0 _ (Option.some.inj hf).symm
    subst eR
    exact xe_zret d27_45 (Or.inr rfl) rt27
  · refine xs_icmp_ge (tgt := 44) d27_7 (by decide) (fun hp => absurd hp hc1) (fun _ => ?_)
    refine xs_iload_n d27_10 rfl ?_
    refine xs_bipush (v := 10) d27_11 (by decide) ?_
    rcases lk_if hf with ⟨hc2, hf⟩ | ⟨hc2, hf⟩
    · refine xs_icmp_ge (tgt := 44) d27_13 (by decide) (fun _ => ?_) (fun hn => absurd hc2 hn)
      refine xs_iconst (v := 1) d27_44 (by decide) ?_
      obtain eR := K0 _ (Option.some.inj hf).symm
      subst eR
      exact xe_zret d27_45 (Or.inr rfl) rt27
    · refine xs_icmp_ge (tgt := 44) d27_13 (by decide) (fun hp => absurd hp hc2) (fun _ => ?_)
      refine xs_aload_n d27_16 rfl ?_
      refine xe_getc (j := i0) d27_17 ky27 fl105 fk4_5 (by omega) ?_
      refine xs_iload_n d27_20 rfl ?_
      obtain ⟨hin3, hf⟩ := lk_g hf
      refine xe_iald d27_21 (by decide) ak20 hin3 ?_
      refine xs_iload_n d27_22 rfl ?_
      rcases lk_if hf with ⟨hc4, hf⟩ | ⟨hc4, hf⟩
      · refine xs_icmp_ne (tgt := 38) d27_23 (by decide) (fun _ => ?_) (fun hn => absurd hc4 hn)
        refine xs_aload_n d27_26 rfl ?_
        refine xe_getc (j := i0) d27_27 ky27 fl106 fk4_6 (by omega) ?_
        refine xs_iload_n d27_30 rfl ?_
        obtain ⟨hin5, hf⟩ := lk_g hf
        refine xe_iald d27_31 (by decide) ak21 hin5 ?_
        refine xs_iload_n d27_32 rfl ?_
        rcases lk_if hf with ⟨hc6, hf⟩ | ⟨hc6, hf⟩
        · refine xs_icmp_eq (tgt := 38) d27_33 (by decide) (fun _ => ?_) (fun hn => absurd hc6 hn)
          exact f_Scene_agrees_b38_ok hD hf K1 K0
        · refine xs_icmp_eq (tgt := 38) d27_33 (by decide) (fun hp => absurd hp hc6) (fun _ => ?_)
          refine xs_iconst (v := 0) d27_36 (by decide) ?_
          obtain eR := K0 _ (Option.some.inj hf).symm
          subst eR
          exact xe_zret d27_37 (Or.inl rfl) rt27
      · refine xs_icmp_ne (tgt := 38) d27_23 (by decide) (fun hp => absurd hp hc4) (fun _ => ?_)
        exact f_Scene_agrees_b38_ok hD hf K1 K0
noncomputable def f_Scene_agrees_l2 (i0 : Nat) (v1 : Int32) (v2 : Int32) (v3 : Int32) (h : xH) : Option Int32 :=
  whl (fun s => f_Scene_agrees_s2 i0 v1 v2 s h) v3
theorem f_Scene_agrees_l2_ok {g : xG} {l : Launch} {d : Nat} {i0 : Nat} {v1 : Int32} {v2 : Int32} {v3 : Int32} {h : xH} {o : Int32} {R : Option xV} (hD : 0 ≤ d) (hf : f_Scene_agrees_l2 i0 v1 v2 v3 h = some o) (K0 : ∀ (a : Int32), o = a → R = some (xi a)) : xEv g l d 27 2 [(0, xr 4 (some i0)), (1, xi v1), (2, xi v2), (3, xi v3)] [] h R h := by
  obtain ⟨n, hn⟩ := whl_iff.mp hf
  clear hf
  induction n generalizing v3 with
  | zero => cases hn
  | succ n ih =>
    obtain ⟨o2, hs, hn⟩ := lk_b (show (f_Scene_agrees_s2 i0 v1 v2 v3 h).bind (fun o => Sum.elim (itn _ n) some o) = some o from hn)
    exact f_Scene_agrees_s2_ok hD hs (fun u0 e => ih (by rw [e] at hn; exact hn)) (fun u0 e => K0 u0 (by rw [e] at hn; exact (Option.some.inj hn).symm))
noncomputable def f_Scene_agrees_e (i0 : Nat) (v1 : Int32) (v2 : Int32) (h : xH) : Option Int32 :=
  f_Scene_agrees_l2 i0 v1 v2 (0 : Int32) h
set_option maxHeartbeats 4000000 in
set_option maxRecDepth 100000 in
theorem f_Scene_agrees_e_ok {g : xG} {l : Launch} {d : Nat} {i0 : Nat} {v1 : Int32} {v2 : Int32} {h : xH} {o : Int32} {R : Option xV} (hD : 0 ≤ d) (hf : f_Scene_agrees_e i0 v1 v2 h = some o) (K0 : ∀ (a : Int32), o = a → R = some (xi a)) : xEv g l d 27 0 [(0, xr 4 (some i0)), (1, xi v1), (2, xi v2)] [] h R h := by
  unfold f_Scene_agrees_e at hf
  refine xs_iconst (v := 0) d27_0 (by decide) ?_
  refine xe_istore_n (v := (0 : Int32)) (ls2 := [(0, xr 4 (some i0)), (1, xi v1), (2, xi v2), (3, xi (0 : Int32))]) d27_1 mx27 (by decide) rfl rfl ?_
  exact f_Scene_agrees_l2_ok hD hf K0
noncomputable def f_Scene_agrees (i0 : Nat) (v1 : Int32) (v2 : Int32) (h : xH) : Option Int32 := f_Scene_agrees_e i0 v1 v2 h
theorem f_Scene_agrees_ok {g : xG} {l : Launch} {d : Nat} {i0 : Nat} {v1 : Int32} {v2 : Int32} {h : xH} {r : Int32} (hD : 0 ≤ d) (hf : f_Scene_agrees i0 v1 v2 h = some r) : xC g l d 27 [xr 4 (some i0), xi v1, xi v2] h (some (xi r)) h :=
  xC_of2 (by decide) mx27 (Nat.le_of_ble_eq_true rfl) (f_Scene_agrees_e_ok hD hf (fun _ e => by rw [e]))
theorem d28_0 : decode (xcode 28) 0 = .ok (.iload_n 0, 1) := by decide +kernel
theorem d28_1 : decode (xcode 28) 1 = .ok (.iload_n 1, 1) := by decide +kernel
theorem d28_2 : decode (xcode 28) 2 = .ok (.ishr, 1) := by decide +kernel
theorem d28_3 : decode (xcode 28) 3 = .ok (.iconst 1, 1) := by decide +kernel
theorem d28_4 : decode (xcode 28) 4 = .ok (.iand, 1) := by decide +kernel
theorem d28_5 : decode (xcode 28) 5 = .ok (.ifCond .eq 7, 3) := by decide +kernel
theorem d28_8 : decode (xcode 28) 8 = .ok (.iconst 1, 1) := by decide +kernel
theorem d28_9 : decode (xcode 28) 9 = .ok (.goto 4, 3) := by decide +kernel
theorem d28_12 : decode (xcode 28) 12 = .ok (.iconst 0, 1) := by decide +kernel
theorem d28_13 : decode (xcode 28) 13 = .ok (.ireturn, 1) := by decide +kernel
noncomputable def f_Sets_has_e (v0 : Int32) (v1 : Int32) (h : xH) : Option Int32 :=
  if ((v0 >>> (v1 &&& 31)) &&& (1 : Int32)) = (0 : Int32) then (
  some ((0 : Int32))) else (
  some ((1 : Int32)))
set_option maxHeartbeats 4000000 in
set_option maxRecDepth 100000 in
theorem f_Sets_has_e_ok {g : xG} {l : Launch} {d : Nat} {v0 : Int32} {v1 : Int32} {h : xH} {o : Int32} {R : Option xV} (hD : 0 ≤ d) (hf : f_Sets_has_e v0 v1 h = some o) (K0 : ∀ (a : Int32), o = a → R = some (xi a)) : xEv g l d 28 0 [(0, xi v0), (1, xi v1)] [] h R h := by
  unfold f_Sets_has_e at hf
  refine xs_iload_n d28_0 rfl ?_
  refine xs_iload_n d28_1 rfl ?_
  refine xs_ishr d28_2 ?_
  refine xs_iconst (v := 1) d28_3 (by decide) ?_
  refine xs_iand d28_4 ?_
  rcases lk_if hf with ⟨hc1, hf⟩ | ⟨hc1, hf⟩
  · refine xs_if_eq (tgt := 12) d28_5 (by decide) (fun _ => ?_) (fun hn => absurd hc1 hn)
    refine xs_iconst (v := 0) d28_12 (by decide) ?_
    obtain eR := K0 _ (Option.some.inj hf).symm
    subst eR
    exact xe_zret d28_13 (Or.inl rfl) rt28
  · refine xs_if_eq (tgt := 12) d28_5 (by decide) (fun hp => absurd hp hc1) (fun _ => ?_)
    refine xs_iconst (v := 1) d28_8 (by decide) ?_
    refine xs_goto (tgt := 13) d28_9 (by decide) ?_
    obtain eR := K0 _ (Option.some.inj hf).symm
    subst eR
    exact xe_zret d28_13 (Or.inr rfl) rt28
noncomputable def f_Sets_has (v0 : Int32) (v1 : Int32) (h : xH) : Option Int32 := f_Sets_has_e v0 v1 h
theorem f_Sets_has_ok {g : xG} {l : Launch} {d : Nat} {v0 : Int32} {v1 : Int32} {h : xH} {r : Int32} (hD : 0 ≤ d) (hf : f_Sets_has v0 v1 h = some r) : xC g l d 28 [xi v0, xi v1] h (some (xi r)) h :=
  xC_of2 (by decide) mx28 (Nat.le_of_ble_eq_true rfl) (f_Sets_has_e_ok hD hf (fun _ e => by rw [e]))
noncomputable def f_Sets_addUp_39_23_s6 (i0 : Nat) (v2 : Int32) (h : xH) : Option ((Int32 × xH) ⊕ xH) :=
  if (256 : Int32) ≤ v2 then (
  some (Sum.inr (h))) else (
  (f_Integer_numberOfTrailingZeros v2 h).bind fun r3 =>
  if xib (v2 &&& (v2 - (1 : Int32))) 256 then (
  if xib r3 8 then (
  if xib v2 256 then (
  xlet (xsA h 23 0 (upd (h.2.2.2.1 23 0) (v2).toNatClampNeg ((h.2.2.2.1 23 0 (v2 &&& (v2 - (1 : Int32))).toNatClampNeg) + (h.2.2.2.1 39 i0 (r3).toNatClampNeg)))) fun h8 =>
  xlet (v2 + (1 : Int32)) fun v2_9 =>
  some (Sum.inl (v2_9, h8))) else none) else none) else none)
set_option maxHeartbeats 4000000 in
set_option maxRecDepth 100000 in
theorem f_Sets_addUp_39_23_s6_ok {g : xG} {l : Launch} {d : Nat} {i0 : Nat} {v2 : Int32} {h : xH} {o : ((Int32 × xH) ⊕ xH)} {R : Option xV} {H' : xH} (hD : 1 ≤ d) (hf : f_Sets_addUp_39_23_s6 i0 v2 h = some o) (K1 : ∀ (w2 : Int32) (h1 : xH), o = Sum.inl (w2, h1) → xEv g l d 29 6 [(0, xr 39 (some i0)), (1, xr 23 (some 0)), (2, xi w2)] [] h1 R H') (K0 : ∀ (h1 : xH), o = Sum.inr (h1) → R = none ∧ H' = h1) : xEv g l d 29 6 [(0, xr 39 (some i0)), (1, xr 23 (some 0)), (2, xi v2)] [] h R H' := by
  unfold f_Sets_addUp_39_23_s6 at hf
  refine xs_iload_n d29_6 rfl ?_
  refine xs_sipush (v := 256) d29_7 (by decide) ?_
  rcases lk_if hf with ⟨hc2, hf⟩ | ⟨hc2, hf⟩
  · refine xs_icmp_ge (tgt := 38) d29_10 (by decide) (fun _ => ?_) (fun hn => absurd hc2 hn)
    obtain ⟨eR, eH⟩ := K0 _ (Option.some.inj hf).symm
    subst eR; subst eH
    exact xs_vret d29_38 rt29
  · refine xs_icmp_ge (tgt := 38) d29_10 (by decide) (fun hp => absurd hp hc2) (fun _ => ?_)
    refine xs_iload_n d29_13 rfl ?_
    obtain ⟨r3, hc4, hf⟩ := lk_b hf
    refine xe_calls1 (as := [xi v2]) (st := []) (h2 := h) (d2 := d - 1) d29_14 ky29 ml116 st254 rfl na254 (Nat.le_of_ble_eq_true rfl) (by omega) (f_Integer_numberOfTrailingZeros_ok (by omega) hc4) ?_
    refine xe_istore_n (v := r3) (ls2 := [(0, xr 39 (some i0)), (1, xr 23 (some 0)), (2, xi v2), (3, xi r3)]) d29_17 mx29 (by decide) rfl rfl ?_
    refine xs_aload_n d29_18 rfl ?_
    refine xs_iload_n d29_19 rfl ?_
    refine xs_aload_n d29_20 rfl ?_
    refine xs_iload_n d29_21 rfl ?_
    refine xs_iload_n d29_22 rfl ?_
    refine xs_iconst (v := 1) d29_23 (by decide) ?_
    refine xs_isub d29_24 ?_
    refine xs_iand d29_25 ?_
    obtain ⟨hin5, hf⟩ := lk_g hf
    refine xe_iald d29_26 (by decide) ak23 hin5 ?_
    refine xs_aload_n d29_27 rfl ?_
    refine xs_iload_n d29_28 rfl ?_
    obtain ⟨hin6, hf⟩ := lk_g hf
    refine xe_iald d29_29 (by decide) ak39 hin6 ?_
    refine xs_iadd d29_30 ?_
    obtain ⟨hin7, hf⟩ := lk_g hf
    obtain ⟨h8, eh8, hf⟩ := lk_let hf
    refine xe_iast d29_31 (by decide) ak23 hin7  eh8 ?_
    obtain ⟨v2_9, ev2_9, hf⟩ := lk_let hf
    refine xe_iinc (v := v2_9) (b := 1) (ls2 := [(0, xr 39 (some i0)), (1, xr 23 (some 0)), (2, xi v2_9), (3, xi r3)]) d29_32 mx29 (by decide) rfl (by decide) ev2_9 rfl ?_
    refine xs_goto (tgt := 6) d29_35 (by decide) ?_
    refine xs_pick [0, 1, 2] rfl ?_
    exact K1 _ _ (Option.some.inj hf).symm
noncomputable def f_Sets_addUp_39_23_l6 (i0 : Nat) (v2 : Int32) (h : xH) : Option xH :=
  whl (fun s => f_Sets_addUp_39_23_s6 i0 s.1 s.2) (v2, h)
theorem f_Sets_addUp_39_23_l6_ok {g : xG} {l : Launch} {d : Nat} {i0 : Nat} {v2 : Int32} {h : xH} {o : xH} {R : Option xV} {H' : xH} (hD : 1 ≤ d) (hf : f_Sets_addUp_39_23_l6 i0 v2 h = some o) (K0 : ∀ (h1 : xH), o = h1 → R = none ∧ H' = h1) : xEv g l d 29 6 [(0, xr 39 (some i0)), (1, xr 23 (some 0)), (2, xi v2)] [] h R H' := by
  obtain ⟨n, hn⟩ := whl_iff.mp hf
  clear hf
  induction n generalizing v2 h with
  | zero => cases hn
  | succ n ih =>
    obtain ⟨o2, hs, hn⟩ := lk_b (show (f_Sets_addUp_39_23_s6 i0 v2 h).bind (fun o => Sum.elim (itn _ n) some o) = some o from hn)
    exact f_Sets_addUp_39_23_s6_ok hD hs (fun u0 u1 e => ih (by rw [e] at hn; exact hn)) (fun u0 e => K0 u0 (by rw [e] at hn; exact (Option.some.inj hn).symm))
noncomputable def f_Sets_addUp_39_23_e (i0 : Nat) (h : xH) : Option xH :=
  xlet (xsA h 23 0 (upd (h.2.2.2.1 23 0) ((0 : Int32)).toNatClampNeg (0 : Int32))) fun h1 =>
  f_Sets_addUp_39_23_l6 i0 (1 : Int32) h1
set_option maxHeartbeats 4000000 in
set_option maxRecDepth 100000 in
theorem f_Sets_addUp_39_23_e_ok {g : xG} {l : Launch} {d : Nat} {i0 : Nat} {h : xH} {o : xH} {R : Option xV} {H' : xH} (hD : 1 ≤ d) (hf : f_Sets_addUp_39_23_e i0 h = some o) (K0 : ∀ (h1 : xH), o = h1 → R = none ∧ H' = h1) : xEv g l d 29 0 [(0, xr 39 (some i0)), (1, xr 23 (some 0))] [] h R H' := by
  unfold f_Sets_addUp_39_23_e at hf
  refine xs_aload_n d29_0 rfl ?_
  refine xs_iconst (v := 0) d29_1 (by decide) ?_
  refine xs_iconst (v := 0) d29_2 (by decide) ?_
  obtain ⟨h1, eh1, hf⟩ := lk_let hf
  refine xe_iast d29_3 (by decide) ak23 (show xib (0 : Int32) 256 by decide)  eh1 ?_
  refine xs_iconst (v := 1) d29_4 (by decide) ?_
  refine xe_istore_n (v := (1 : Int32)) (ls2 := [(0, xr 39 (some i0)), (1, xr 23 (some 0)), (2, xi (1 : Int32))]) d29_5 mx29 (by decide) rfl rfl ?_
  exact f_Sets_addUp_39_23_l6_ok hD hf K0
noncomputable def f_Sets_addUp_39_23 (i0 : Nat) (h : xH) : Option xH := f_Sets_addUp_39_23_e i0 h
theorem f_Sets_addUp_39_23_ok {g : xG} {l : Launch} {d : Nat} {i0 : Nat} {h : xH} {h1 : xH} (hD : 1 ≤ d) (hf : f_Sets_addUp_39_23 i0 h = some h1) : xC g l d 29 [xr 39 (some i0), xr 23 (some 0)] h none h1 :=
  xC_of2 (by decide) mx29 (Nat.le_of_ble_eq_true rfl) (f_Sets_addUp_39_23_e_ok hD hf (fun _ e => ⟨rfl, e⟩))
noncomputable def f_Sets_addUp_32_24_s6 (i0 : Nat) (v2 : Int32) (h : xH) : Option ((Int32 × xH) ⊕ xH) :=
  if (256 : Int32) ≤ v2 then (
  some (Sum.inr (h))) else (
  (f_Integer_numberOfTrailingZeros v2 h).bind fun r3 =>
  if xib (v2 &&& (v2 - (1 : Int32))) 256 then (
  if xib r3 8 then (
  if xib v2 256 then (
  xlet (xsA h 24 0 (upd (h.2.2.2.1 24 0) (v2).toNatClampNeg ((h.2.2.2.1 24 0 (v2 &&& (v2 - (1 : Int32))).toNatClampNeg) + (h.2.2.2.1 32 i0 (r3).toNatClampNeg)))) fun h8 =>
  xlet (v2 + (1 : Int32)) fun v2_9 =>
  some (Sum.inl (v2_9, h8))) else none) else none) else none)
set_option maxHeartbeats 4000000 in
set_option maxRecDepth 100000 in
theorem f_Sets_addUp_32_24_s6_ok {g : xG} {l : Launch} {d : Nat} {i0 : Nat} {v2 : Int32} {h : xH} {o : ((Int32 × xH) ⊕ xH)} {R : Option xV} {H' : xH} (hD : 1 ≤ d) (hf : f_Sets_addUp_32_24_s6 i0 v2 h = some o) (K1 : ∀ (w2 : Int32) (h1 : xH), o = Sum.inl (w2, h1) → xEv g l d 29 6 [(0, xr 32 (some i0)), (1, xr 24 (some 0)), (2, xi w2)] [] h1 R H') (K0 : ∀ (h1 : xH), o = Sum.inr (h1) → R = none ∧ H' = h1) : xEv g l d 29 6 [(0, xr 32 (some i0)), (1, xr 24 (some 0)), (2, xi v2)] [] h R H' := by
  unfold f_Sets_addUp_32_24_s6 at hf
  refine xs_iload_n d29_6 rfl ?_
  refine xs_sipush (v := 256) d29_7 (by decide) ?_
  rcases lk_if hf with ⟨hc2, hf⟩ | ⟨hc2, hf⟩
  · refine xs_icmp_ge (tgt := 38) d29_10 (by decide) (fun _ => ?_) (fun hn => absurd hc2 hn)
    obtain ⟨eR, eH⟩ := K0 _ (Option.some.inj hf).symm
    subst eR; subst eH
    exact xs_vret d29_38 rt29
  · refine xs_icmp_ge (tgt := 38) d29_10 (by decide) (fun hp => absurd hp hc2) (fun _ => ?_)
    refine xs_iload_n d29_13 rfl ?_
    obtain ⟨r3, hc4, hf⟩ := lk_b hf
    refine xe_calls1 (as := [xi v2]) (st := []) (h2 := h) (d2 := d - 1) d29_14 ky29 ml116 st254 rfl na254 (Nat.le_of_ble_eq_true rfl) (by omega) (f_Integer_numberOfTrailingZeros_ok (by omega) hc4) ?_
    refine xe_istore_n (v := r3) (ls2 := [(0, xr 32 (some i0)), (1, xr 24 (some 0)), (2, xi v2), (3, xi r3)]) d29_17 mx29 (by decide) rfl rfl ?_
    refine xs_aload_n d29_18 rfl ?_
    refine xs_iload_n d29_19 rfl ?_
    refine xs_aload_n d29_20 rfl ?_
    refine xs_iload_n d29_21 rfl ?_
    refine xs_iload_n d29_22 rfl ?_
    refine xs_iconst (v := 1) d29_23 (by decide) ?_
    refine xs_isub d29_24 ?_
    refine xs_iand d29_25 ?_
    obtain ⟨hin5, hf⟩ := lk_g hf
    refine xe_iald d29_26 (by decide) ak24 hin5 ?_
    refine xs_aload_n d29_27 rfl ?_
    refine xs_iload_n d29_28 rfl ?_
    obtain ⟨hin6, hf⟩ := lk_g hf
    refine xe_iald d29_29 (by decide) ak32 hin6 ?_
    refine xs_iadd d29_30 ?_
    obtain ⟨hin7, hf⟩ := lk_g hf
    obtain ⟨h8, eh8, hf⟩ := lk_let hf
    refine xe_iast d29_31 (by decide) ak24 hin7  eh8 ?_
    obtain ⟨v2_9, ev2_9, hf⟩ := lk_let hf
    refine xe_iinc (v := v2_9) (b := 1) (ls2 := [(0, xr 32 (some i0)), (1, xr 24 (some 0)), (2, xi v2_9), (3, xi r3)]) d29_32 mx29 (by decide) rfl (by decide) ev2_9 rfl ?_
    refine xs_goto (tgt := 6) d29_35 (by decide) ?_
    refine xs_pick [0, 1, 2] rfl ?_
    exact K1 _ _ (Option.some.inj hf).symm
noncomputable def f_Sets_addUp_32_24_l6 (i0 : Nat) (v2 : Int32) (h : xH) : Option xH :=
  whl (fun s => f_Sets_addUp_32_24_s6 i0 s.1 s.2) (v2, h)
theorem f_Sets_addUp_32_24_l6_ok {g : xG} {l : Launch} {d : Nat} {i0 : Nat} {v2 : Int32} {h : xH} {o : xH} {R : Option xV} {H' : xH} (hD : 1 ≤ d) (hf : f_Sets_addUp_32_24_l6 i0 v2 h = some o) (K0 : ∀ (h1 : xH), o = h1 → R = none ∧ H' = h1) : xEv g l d 29 6 [(0, xr 32 (some i0)), (1, xr 24 (some 0)), (2, xi v2)] [] h R H' := by
  obtain ⟨n, hn⟩ := whl_iff.mp hf
  clear hf
  induction n generalizing v2 h with
  | zero => cases hn
  | succ n ih =>
    obtain ⟨o2, hs, hn⟩ := lk_b (show (f_Sets_addUp_32_24_s6 i0 v2 h).bind (fun o => Sum.elim (itn _ n) some o) = some o from hn)
    exact f_Sets_addUp_32_24_s6_ok hD hs (fun u0 u1 e => ih (by rw [e] at hn; exact hn)) (fun u0 e => K0 u0 (by rw [e] at hn; exact (Option.some.inj hn).symm))
noncomputable def f_Sets_addUp_32_24_e (i0 : Nat) (h : xH) : Option xH :=
  xlet (xsA h 24 0 (upd (h.2.2.2.1 24 0) ((0 : Int32)).toNatClampNeg (0 : Int32))) fun h1 =>
  f_Sets_addUp_32_24_l6 i0 (1 : Int32) h1
set_option maxHeartbeats 4000000 in
set_option maxRecDepth 100000 in
theorem f_Sets_addUp_32_24_e_ok {g : xG} {l : Launch} {d : Nat} {i0 : Nat} {h : xH} {o : xH} {R : Option xV} {H' : xH} (hD : 1 ≤ d) (hf : f_Sets_addUp_32_24_e i0 h = some o) (K0 : ∀ (h1 : xH), o = h1 → R = none ∧ H' = h1) : xEv g l d 29 0 [(0, xr 32 (some i0)), (1, xr 24 (some 0))] [] h R H' := by
  unfold f_Sets_addUp_32_24_e at hf
  refine xs_aload_n d29_0 rfl ?_
  refine xs_iconst (v := 0) d29_1 (by decide) ?_
  refine xs_iconst (v := 0) d29_2 (by decide) ?_
  obtain ⟨h1, eh1, hf⟩ := lk_let hf
  refine xe_iast d29_3 (by decide) ak24 (show xib (0 : Int32) 256 by decide)  eh1 ?_
  refine xs_iconst (v := 1) d29_4 (by decide) ?_
  refine xe_istore_n (v := (1 : Int32)) (ls2 := [(0, xr 32 (some i0)), (1, xr 24 (some 0)), (2, xi (1 : Int32))]) d29_5 mx29 (by decide) rfl rfl ?_
  exact f_Sets_addUp_32_24_l6_ok hD hf K0
noncomputable def f_Sets_addUp_32_24 (i0 : Nat) (h : xH) : Option xH := f_Sets_addUp_32_24_e i0 h
theorem f_Sets_addUp_32_24_ok {g : xG} {l : Launch} {d : Nat} {i0 : Nat} {h : xH} {h1 : xH} (hD : 1 ≤ d) (hf : f_Sets_addUp_32_24 i0 h = some h1) : xC g l d 29 [xr 32 (some i0), xr 24 (some 0)] h none h1 :=
  xC_of2 (by decide) mx29 (Nat.le_of_ble_eq_true rfl) (f_Sets_addUp_32_24_e_ok hD hf (fun _ e => ⟨rfl, e⟩))
