/-! PURE: rule: a clause, its pieces -/
noncomputable def mL4 (v1 : Int32) (h : xH) : Option (Int32 × xH) := if xib (h.1 12 11 0) 7 then (if xib (v1 + 2) 288 then xlet (xsA h 50 0 (upd (h.2.2.2.1 50 0) (v1 + 2).toNatClampNeg (h.2.2.2.1 49 0 (h.1 12 11 0).toNatClampNeg))) (fun h30 => (f_M_tested h30).bind (fun q33 => if q33.1 = 0 then some (0, q33.2) else f_M_isLiftHere_b110 v1 q33.2)) else none) else none
noncomputable def mL3 (v1 : Int32) (h : xH) : Option (Int32 × xH) := if xib (h.1 12 11 0) 7 then (if xib (v1 + 1) 288 then xlet (xsA h 50 0 (upd (h.2.2.2.1 50 0) (v1 + 1).toNatClampNeg (h.2.2.2.1 49 0 (h.1 12 11 0).toNatClampNeg))) (fun h15 => if xib (v1 + 2) 288 then xlet (xsA h15 50 0 (upd (h15.2.2.2.1 50 0) (v1 + 2).toNatClampNeg (-1))) (fun h17 => (f_M_takesWord 26982 h17).bind (fun q20 => if q20.1 = 0 then f_M_isLiftHere_b110 v1 q20.2 else mL4 v1 q20.2)) else none) else none) else none
noncomputable def mL2 (v1 : Int32) (h8 : xH) : Option (Int32 × xH) := (f_M_sum h8).bind (fun q11 => if q11.1 = 0 then some (0, q11.2) else mL3 v1 q11.2)
/-- a place of row 50 set -/
noncomputable def s50 (h : xH) (j : Nat) (v : Int32) : xH := xsA h 50 0 (upd (h.2.2.2.1 50 0) j v)
theorem s50_A {h : xH} {j f i : Nat} {v : Int32} (z : ¬ f = 50) : (s50 h j v).2.2.2.1 f i = h.2.2.2.1 f i := rdA_n (by omega)
theorem s50_s {h : xH} {j : Nat} {v : Int32} : (s50 h j v).2.2.2.1 50 0 j = v := by
  show (xsA h 50 0 (upd (h.2.2.2.1 50 0) j v)).2.2.2.1 50 0 j = v
  rw [rdA_s, pk_us]
theorem s50_n {h : xH} {j i : Nat} {v : Int32} (z : i ≠ j) : (s50 h j v).2.2.2.1 50 0 i = h.2.2.2.1 50 0 i := by
  show (xsA h 50 0 (upd (h.2.2.2.1 50 0) j v)).2.2.2.1 50 0 i = _
  rw [rdA_s, pk_un z]
theorem m_L1 {g g1 : xH} {R n C : Nat} (ep : f_M_passWord g = some g1) (hR : R < 6) (hn : n < 12) (e11 : g1.1 12 11 0 = nI R) (e49 : g1.2.2.2.1 49 0 R = nI C) (e51 : g1.2.2.2.1 51 0 R = nI n) : f_M_isLiftHere g = mL2 (nI (48 * R + 4 * n)) (s50 g1 (48 * R + 4 * n) (nI C)) := by
  have s0 : f_M_isLiftHere g = (f_M_passWord g).bind (fun h3 => if xib (h3.1 12 11 0) 6 then xlet ((48 : Int32) * (h3.1 12 11 0) + (4 : Int32) * (h3.2.2.2.1 51 0 (h3.1 12 11 0).toNatClampNeg)) (fun v1 => if xib (h3.1 12 11 0) 7 then (if xib v1 288 then xlet (xsA h3 50 0 (upd (h3.2.2.2.1 50 0) v1.toNatClampNeg (h3.2.2.2.1 49 0 (h3.1 12 11 0).toNatClampNeg))) (fun h8 => mL2 v1 h8) else none) else none) else none) := rfl
  have kc : (nI R).toNatClampNeg = R := nI_clamp (by omega)
  have r51 : g1.2.2.2.1 51 0 (nI R).toNatClampNeg = nI n := by rw [kc]; exact e51
  have r49 : g1.2.2.2.1 49 0 (nI R).toNatClampNeg = nI C := by rw [kc]; exact e49
  have iv : (48 : Int32) * nI R + (4 : Int32) * nI n = nI (48 * R + 4 * n) := by
    rw [show (48 : Int32) * nI R = nI (48 * R) from pk_mul 48 R, show (4 : Int32) * nI n = nI (4 * n) from pk_mul 4 n, nI_add]
  rw [s0, ep, Option.bind_some, e11, if_pos (xibN (by omega) (by decide)), r51, iv]
  show (if xib (nI R) 7 then (if xib (nI (48 * R + 4 * n)) 288 then xlet (xsA g1 50 0 (upd (g1.2.2.2.1 50 0) (nI (48 * R + 4 * n)).toNatClampNeg (g1.2.2.2.1 49 0 (nI R).toNatClampNeg))) (fun h8 => mL2 (nI (48 * R + 4 * n)) h8) else none) else none) = _
  rw [if_pos (xibN (show R < 7 by omega) (by decide)), if_pos (xibN (show 48 * R + 4 * n < 288 by omega) (by decide)), r49, nI_clamp (by omega)]
  rfl
theorem m_L3 {b : xH} {R n C : Nat} (hR : R < 6) (hn : n < 12) (e11 : b.1 12 11 0 = nI R) (e49 : b.2.2.2.1 49 0 R = nI C) : mL3 (nI (48 * R + 4 * n)) b = (f_M_takesWord 26982 (s50 (s50 b (48 * R + 4 * n + 1) (nI C)) (48 * R + 4 * n + 2) (-1))).bind (fun q20 => if q20.1 = 0 then f_M_isLiftHere_b110 (nI (48 * R + 4 * n)) q20.2 else mL4 (nI (48 * R + 4 * n)) q20.2) := by
  have kc : (nI R).toNatClampNeg = R := nI_clamp (by omega)
  have r49 : b.2.2.2.1 49 0 (nI R).toNatClampNeg = nI C := by rw [kc]; exact e49
  have i1 : nI (48 * R + 4 * n) + (1 : Int32) = nI (48 * R + 4 * n + 1) := by rw [nI_1]
  have i2 : nI (48 * R + 4 * n) + (2 : Int32) = nI (48 * R + 4 * n + 2) := by rw [show (2 : Int32) = nI 2 from rfl, nI_add]
  unfold mL3
  rw [e11, if_pos (xibN (show R < 7 by omega) (by decide)), i1, if_pos (xibN (show 48 * R + 4 * n + 1 < 288 by omega) (by decide)), r49, nI_clamp (by omega), i2]
  show (if xib (nI (48 * R + 4 * n + 2)) 288 then xlet (xsA (s50 b (48 * R + 4 * n + 1) (nI C)) 50 0 (upd ((s50 b (48 * R + 4 * n + 1) (nI C)).2.2.2.1 50 0) (nI (48 * R + 4 * n + 2)).toNatClampNeg (-1))) (fun h17 => (f_M_takesWord 26982 h17).bind (fun q20 => if q20.1 = 0 then f_M_isLiftHere_b110 (nI (48 * R + 4 * n)) q20.2 else mL4 (nI (48 * R + 4 * n)) q20.2)) else none) = _
  rw [if_pos (xibN (show 48 * R + 4 * n + 2 < 288 by omega) (by decide)), nI_clamp (by omega)]
  rfl
theorem m_L4 {b : xH} {R n C : Nat} (hR : R < 6) (hn : n < 12) (e11 : b.1 12 11 0 = nI R) (e49 : b.2.2.2.1 49 0 R = nI C) : mL4 (nI (48 * R + 4 * n)) b = (f_M_tested (s50 b (48 * R + 4 * n + 2) (nI C))).bind (fun q33 => if q33.1 = 0 then some (0, q33.2) else f_M_isLiftHere_b110 (nI (48 * R + 4 * n)) q33.2) := by
  have kc : (nI R).toNatClampNeg = R := nI_clamp (by omega)
  have r49 : b.2.2.2.1 49 0 (nI R).toNatClampNeg = nI C := by rw [kc]; exact e49
  have i2 : nI (48 * R + 4 * n) + (2 : Int32) = nI (48 * R + 4 * n + 2) := by rw [show (2 : Int32) = nI 2 from rfl, nI_add]
  unfold mL4
  rw [e11, if_pos (xibN (show R < 7 by omega) (by decide)), i2, if_pos (xibN (show 48 * R + 4 * n + 2 < 288 by omega) (by decide)), r49, nI_clamp (by omega)]
  rfl
theorem m_L110 {b : xH} {R n C : Nat} (hR : R < 6) (hn : n < 12) (e11 : b.1 12 11 0 = nI R) (e49 : b.2.2.2.1 49 0 R = nI C) (e51 : b.2.2.2.1 51 0 R = nI n) : f_M_isLiftHere_b110 (nI (48 * R + 4 * n)) b = some (1, xsA (s50 b (48 * R + 4 * n + 3) (nI C)) 51 0 (upd (b.2.2.2.1 51 0) R (nI (n + 1)))) := by
  have kc : (nI R).toNatClampNeg = R := nI_clamp (by omega)
  have r49 : b.2.2.2.1 49 0 (nI R).toNatClampNeg = nI C := by rw [kc]; exact e49
  have i3 : nI (48 * R + 4 * n) + (3 : Int32) = nI (48 * R + 4 * n + 3) := by rw [show (3 : Int32) = nI 3 from rfl, nI_add]
  have s0 : f_M_isLiftHere_b110 (nI (48 * R + 4 * n)) b = (if xib (b.1 12 11 0) 7 then (if xib (nI (48 * R + 4 * n) + 3) 288 then xlet (xsA b 50 0 (upd (b.2.2.2.1 50 0) (nI (48 * R + 4 * n) + 3).toNatClampNeg (b.2.2.2.1 49 0 (b.1 12 11 0).toNatClampNeg))) (fun h24 => if xib (h24.1 12 11 0) 6 then (if xib (h24.1 12 11 0) 6 then xlet (xsA h24 51 0 (upd (h24.2.2.2.1 51 0) (h24.1 12 11 0).toNatClampNeg ((h24.2.2.2.1 51 0 (h24.1 12 11 0).toNatClampNeg) + 1))) (fun h27 => some (1, h27)) else none) else none) else none) else none) := rfl
  obtain ⟨c, ec⟩ : ∃ c, c = s50 b (48 * R + 4 * n + 3) (nI C) := ⟨_, rfl⟩
  have c11 : c.1 12 11 0 = nI R := by rw [ec]; exact e11
  have c51 : c.2.2.2.1 51 0 = b.2.2.2.1 51 0 := by rw [ec]; exact s50_A (by decide)
  rw [i3, e11, if_pos (xibN (show R < 7 by omega) (by decide)), if_pos (xibN (show 48 * R + 4 * n + 3 < 288 by omega) (by decide)), r49, nI_clamp (by omega)] at s0
  have s1 : f_M_isLiftHere_b110 (nI (48 * R + 4 * n)) b = (if xib (c.1 12 11 0) 6 then (if xib (c.1 12 11 0) 6 then xlet (xsA c 51 0 (upd (c.2.2.2.1 51 0) (c.1 12 11 0).toNatClampNeg ((c.2.2.2.1 51 0 (c.1 12 11 0).toNatClampNeg) + 1))) (fun h27 => some (1, h27)) else none) else none) := by rw [ec]; exact s0
  rw [c11, if_pos (xibN hR (by decide)), if_pos (xibN hR (by decide)), kc, c51, e51, nI_1] at s1
  rw [s1, ec]
  rfl
/-- the end of a clause laid by the class -/
theorem c_addT {a : xH} {R L : Nat} {v : Int32} (hL : a.1 2 2 R = nI L) (h4 : L < 400) (hv : ¬ (v = 7 ∨ v = 10 ∨ v = 11)) : ∃ a', f_Rule_add R v a = some a' ∧ adF R a a' ∧ a'.1 2 2 R = nI (L + 1) ∧ (∀ j, j < L → a'.2.2.2.1 18 R j = a.2.2.2.1 18 R j) ∧ a'.2.2.2.1 18 R L = v ∧ a'.1 2 3 R = a.1 2 3 R := by
  obtain ⟨g, eg⟩ : ∃ g, g = xsI (xsA a 18 R (upd (a.2.2.2.1 18 R) L v)) 2 2 R (nI (L + 1)) := ⟨_, rfl⟩
  have e := c_addE (h := a) (R := R) (v := v)
  rw [hL, if_neg (nI_pos (by omega)), if_neg (show ¬ (400 : Int32) ≤ nI L from nI_ge (b := 400) h4 (by decide)), if_pos (xibN h4 (by decide)), nI_clamp (by omega), nI_1, ← eg, c_add39, if_neg hv] at e
  have g18 : g.2.2.2.1 18 R = upd (a.2.2.2.1 18 R) L v := by rw [eg]; show (xsA a 18 R _).2.2.2.1 18 R = _; rw [rdA_s]
  exact ⟨g, e, ⟨fun c k i z => by rw [eg, rdI_3 (by omega)]; rfl, fun f i z => by rw [eg]; show (xsA a 18 R _).2.2.2.1 f i = _; rw [rdA_n z], by rw [eg]; rfl⟩, by rw [eg, rdI_s], fun j hj => by rw [g18, pk_un (by omega)], by rw [g18, pk_us], by rw [eg, rdI (by decide)]; rfl⟩
