/-! PURE: the invariant with the rules' own part Q, and the easy pairs -/
/-- two stores that hold the same rules -/
def sameR (h h' : xH) : Prop := (∀ k i, h'.1 2 k i = h.1 2 k i) ∧ h'.2.2.2.1 18 = h.2.2.2.1 18 ∧ h'.2.2.2.1 48 = h.2.2.2.1 48 ∧ (∀ j, j < 6 → h'.2.2.2.1 49 0 j = h.2.2.2.1 49 0 j) ∧ h'.2.2.2.1 50 = h.2.2.2.1 50 ∧ h'.2.2.2.1 51 = h.2.2.2.1 51
def qOk (Q : xH → Nat → Prop) : Prop := ∀ h h' R, sameR h h' → Q h R → Q h' R
def jII (Q : xH → Nat → Prop) (h : xH) : Prop := ∃ R : Nat, R ≤ 6 ∧ h.1 11 5 0 = nI R ∧ h.1 12 2 0 = nI R ∧ jI h R ∧ Q h R
/-- fields and rows that a write leaves -/
theorem rdI {h : xH} {c k i : Nat} {v : Int32} {c' k' i' : Nat} (hn : ¬ (c' = c ∧ k' = k)) : (xsI h c k i v).1 c' k' i' = h.1 c' k' i' := by
  show xw h.1 c k (upd (h.1 c k) i v) c' k' i' = _
  rw [xw_n hn]
theorem rdI_s {h : xH} {c k i : Nat} {v : Int32} : (xsI h c k i v).1 c k i = v := by
  show xw h.1 c k (upd (h.1 c k) i v) c k i = _
  rw [xw_s]
  simp [upd]
theorem rdI_i {h : xH} {c k i i' : Nat} {v : Int32} (hn : ¬ i' = i) : (xsI h c k i v).1 c k i' = h.1 c k i' := by
  show xw h.1 c k (upd (h.1 c k) i v) c k i' = _
  rw [xw_s]
  simp [upd, hn]
theorem rdI_A {h : xH} {c k i : Nat} {v : Int32} : (xsI h c k i v).2 = h.2 := rfl
variable {Q : xH → Nat → Prop}
/-- end -/
theorem p_end (hQ : qOk Q) : lI_end (jII Q) := by
  rintro a h ⟨R, hR, r1, r2, hj, hq⟩
  obtain ⟨t, t1, t2, t3, t4⟩ := hj.1
  show ∃ r h1 h2, (if a < 0 then some (-1, h) else if a ≤ h.1 7 6 0 then some (a, xsI h 7 6 0 a) else some (-1, h)) = some (r, h1) ∧ (if a < 0 then some (-1, h1) else if a ≤ h1.1 12 1 0 then some (a, xsI h1 12 1 0 a) else some (-1, h1)) = some (r, h2) ∧ jII Q h2
  have keep : jII Q h := ⟨R, hR, r1, r2, hj, hq⟩
  by_cases a0 : a < 0
  · exact ⟨-1, h, h, by rw [if_pos a0], by rw [if_pos a0], keep⟩
  by_cases a1 : a ≤ nI t
  · refine ⟨a, xsI h 7 6 0 a, xsI (xsI h 7 6 0 a) 12 1 0 a, by rw [if_neg a0, t2, if_pos a1], by rw [if_neg a0, rdI (by decide), t3, if_pos a1], ?_⟩
    obtain ⟨z, hz, ea⟩ := nI_of2 (M := nI t) (n := t) (nI_toInt (by omega)) a0 a1
    have e1 : ∀ c k i, ¬ (c = 7 ∧ k = 6) → ¬ (c = 12 ∧ k = 1) → (xsI (xsI h 7 6 0 a) 12 1 0 a).1 c k i = h.1 c k i := fun c k i h1 h2 => by rw [rdI h2, rdI h1]
    refine ⟨R, hR, by rw [e1 11 5 0 (by decide) (by decide)]; exact r1, by rw [e1 12 2 0 (by decide) (by decide)]; exact r2, jI_same ⟨fun k i => e1 6 k i (by omega) (by omega), fun k i => e1 8 k i (by omega) (by omega), fun i => e1 4 4 i (by decide) (by decide), fun f _ _ => rfl, fun k => e1 1 k 0 (by omega) (by omega), e1 12 24 0 (by decide) (by decide), fun i _ => ⟨e1 4 2 i (by decide) (by decide), e1 4 3 i (by decide) (by decide)⟩⟩ ⟨z, by omega, by rw [rdI (by decide), rdI_s, ea], by rw [rdI_s, ea], fun j hj => t4 j (by omega)⟩ ?_ hj, hQ h _ R ⟨fun k i => e1 2 k i (by omega) (by omega), rfl, rfl, fun _ _ => rfl, rfl, rfl⟩ hq⟩
    obtain ⟨f1, f2, f3, f4⟩ := hj.2.1
    refine ⟨?_, ?_, ?_, ?_⟩
    · rw [e1 4 2 0 (by decide) (by decide), e1 12 21 0 (by decide) (by decide)]; exact f1
    · rw [e1 4 3 0 (by decide) (by decide), e1 12 22 0 (by decide) (by decide)]; exact f2
    · rw [e1 12 21 0 (by decide) (by decide)]; exact f3
    · rw [e1 12 22 0 (by decide) (by decide)]; exact f4
  · exact ⟨-1, h, h, by rw [if_neg a0, t2, if_neg a1], by rw [if_neg a0, t3, if_neg a1], keep⟩
/-- seed -/
theorem p_seed (hQ : qOk Q) : lI_seed (jII Q) := by
  rintro a h ⟨R, hR, r1, r2, hj, hq⟩
  obtain ⟨f1, f2, f3, f4⟩ := hj.2.1
  show ∃ r h1 h2, (if 0 ≤ a then some (h.1 4 3 0, xsI h 4 3 0 a) else some (-1, h)) = some (r, h1) ∧ (if 0 ≤ a then some (h1.1 12 22 0, xsI h1 12 22 0 a) else some (-1, h1)) = some (r, h2) ∧ jII Q h2
  by_cases a0 : 0 ≤ a
  · refine ⟨h.1 4 3 0, xsI h 4 3 0 a, xsI (xsI h 4 3 0 a) 12 22 0 a, by rw [if_pos a0], by rw [if_pos a0, rdI (by decide), f2], ?_⟩
    have e1 : ∀ c k i, ¬ (c = 4 ∧ k = 3) → ¬ (c = 12 ∧ k = 22) → (xsI (xsI h 4 3 0 a) 12 22 0 a).1 c k i = h.1 c k i := fun c k i h1 h2 => by rw [rdI h2, rdI h1]
    refine ⟨R, hR, by rw [e1 11 5 0 (by decide) (by decide)]; exact r1, by rw [e1 12 2 0 (by decide) (by decide)]; exact r2, jI_same ⟨fun k i => e1 6 k i (by omega) (by omega), fun k i => e1 8 k i (by omega) (by omega), fun i => e1 4 4 i (by decide) (by decide), fun f _ _ => rfl, fun k => e1 1 k 0 (by omega) (by omega), e1 12 24 0 (by decide) (by decide), fun i hi => ⟨e1 4 2 i (by decide) (by decide), by rw [rdI (by decide), rdI_i (by omega)]⟩⟩ ?_ ⟨?_, ?_, ?_, ?_⟩ hj, hQ h _ R ⟨fun k i => e1 2 k i (by omega) (by omega), rfl, rfl, fun _ _ => rfl, rfl, rfl⟩ hq⟩
    · obtain ⟨t, t1, t2, t3, t4⟩ := hj.1
      exact ⟨t, t1, by rw [e1 7 6 0 (by decide) (by decide)]; exact t2, by rw [e1 12 1 0 (by decide) (by decide)]; exact t3, t4⟩
    · rw [e1 4 2 0 (by decide) (by decide), e1 12 21 0 (by decide) (by decide)]; exact f1
    · rw [rdI (by decide), rdI_s, rdI_s]
    · rw [e1 12 21 0 (by decide) (by decide)]; exact f3
    · rw [rdI_s]; exact a0
  · exact ⟨-1, h, h, by rw [if_neg a0], by rw [if_neg a0], R, hR, r1, r2, hj, hq⟩
/-- carrier -/
theorem p_carrier : lI_carrier (jII Q) := by
  rintro a h ⟨R, hR, r1, r2, hj, hq⟩
  obtain ⟨n, m, c, hs, -⟩ := hj.2.2.2
  obtain ⟨hv, ht, -⟩ := hs
  obtain ⟨-, -, -, -, -, -, v4, m4, -⟩ := hv
  obtain ⟨-, -, -, -, w4, -, w5, -⟩ := ht
  show ∃ r, (if a < 0 then some (-1) else if a < h.1 8 4 0 then (if xib a 4 then some (h.2.2.2.1 41 0 a.toNatClampNeg) else none) else some (-1)) = some r ∧ (if a < 0 then some (-1) else if mS h 4 ≤ a then some (-1) else if xib (60 + a) 101 then some (mS h ((60 : Int32) + a).toNatClampNeg) else none) = some r
  rw [w4, v4]
  rcases pk_ix a (n := m) (by omega) with h1 | h1 | ⟨j, hj, rfl⟩
  · exact ⟨-1, by rw [if_pos h1], by rw [if_pos h1]⟩
  · by_cases a0 : a < 0
    · exact ⟨-1, by rw [if_pos a0], by rw [if_pos a0]⟩
    · exact ⟨-1, by rw [if_neg a0, if_neg (Int32.not_lt.mpr h1)], by rw [if_neg a0, if_pos h1]⟩
  · refine ⟨mS h (60 + j), ?_, ?_⟩
    · rw [if_neg (nI_pos (by omega)), if_pos (nI_lt hj (by omega)), if_pos (xibN (by omega) (by decide)), nI_clamp (by omega), w5 j hj]
    · rw [if_neg (nI_pos (by omega)), if_neg (nI_ge hj (by omega)), if_pos (xibA (c := 60) (a := 60) rfl (by omega) (by decide)), ixA (c := 60) (a := 60) rfl (by omega)]
/-- force -/
theorem p_force (hQ : qOk Q) : lI_force (jII Q) := by
  rintro a h ⟨R, hR, r1, r2, hj, hq⟩
  obtain ⟨f1, f2, f3, f4⟩ := hj.2.1
  have keep : jII Q h := ⟨R, hR, r1, r2, hj, hq⟩
  show ∃ r h1 h2, (if a < -1 then some (-2, h) else if a < h.1 11 5 0 then some (h.1 4 2 0, xsI h 4 2 0 a) else some (-2, h)) = some (r, h1) ∧ (if a = -1 then some (h1.1 12 21 0, xsI h1 12 21 0 a) else ((if a < 0 then some 0 else if h1.1 12 2 0 ≤ a then some 0 else some 1 : Option Int32)).bind (fun r4 => if r4 = 0 then some (-2, h1) else some (h1.1 12 21 0, xsI h1 12 21 0 a))) = some (r, h2) ∧ jII Q h2
  have good : (a = -1 ∨ ∃ r, r < R ∧ a = nI r) → jII Q (xsI (xsI h 4 2 0 a) 12 21 0 a) := by
    intro ha
    have e1 : ∀ c k i, ¬ (c = 4 ∧ k = 2) → ¬ (c = 12 ∧ k = 21) → (xsI (xsI h 4 2 0 a) 12 21 0 a).1 c k i = h.1 c k i := fun c k i h1 h2 => by rw [rdI h2, rdI h1]
    refine ⟨R, hR, by rw [e1 11 5 0 (by decide) (by decide)]; exact r1, by rw [e1 12 2 0 (by decide) (by decide)]; exact r2, jI_same ⟨fun k i => e1 6 k i (by omega) (by omega), fun k i => e1 8 k i (by omega) (by omega), fun i => e1 4 4 i (by decide) (by decide), fun f _ _ => rfl, fun k => e1 1 k 0 (by omega) (by omega), e1 12 24 0 (by decide) (by decide), fun i hi => ⟨by rw [rdI (by decide), rdI_i (by omega)], e1 4 3 i (by decide) (by decide)⟩⟩ ?_ ⟨?_, ?_, ?_, ?_⟩ hj, hQ h _ R ⟨fun k i => e1 2 k i (by omega) (by omega), rfl, rfl, fun _ _ => rfl, rfl, rfl⟩ hq⟩
    · obtain ⟨t, t1, t2, t3, t4⟩ := hj.1
      exact ⟨t, t1, by rw [e1 7 6 0 (by decide) (by decide)]; exact t2, by rw [e1 12 1 0 (by decide) (by decide)]; exact t3, t4⟩
    · rw [rdI (by decide), rdI_s, rdI_s]
    · rw [e1 4 3 0 (by decide) (by decide), e1 12 22 0 (by decide) (by decide)]; exact f2
    · rw [rdI_s]; exact ha
    · rw [e1 12 22 0 (by decide) (by decide)]; exact f4
  by_cases am : a = -1
  · refine ⟨h.1 4 2 0, xsI h 4 2 0 a, xsI (xsI h 4 2 0 a) 12 21 0 a, ?_, ?_, good (Or.inl am)⟩
    · rw [if_neg (by rw [am]; decide), r1, if_pos (by rw [am, Int32.lt_iff_toInt_lt, nI_toInt (by omega)]; show (-1 : Int) < _; omega)]
    · rw [if_pos am, rdI (by decide), f1]
  · rcases pk_ix a (n := R) (by omega) with h1 | h1 | ⟨j, hj', rfl⟩
    · refine ⟨-2, h, h, ?_, ?_, keep⟩
      · rw [if_pos ?_]
        rw [Int32.lt_iff_toInt_lt] at h1 ⊢
        have e2 : a.toInt ≠ (-1 : Int32).toInt := fun z => am (Int32.toInt_inj.mp z)
        have e3 : (-1 : Int32).toInt = -1 := by decide
        have e4 : (0 : Int32).toInt = 0 := by decide
        rw [e3] at e2 ⊢
        rw [e4] at h1
        omega
      · rw [if_neg am, if_pos h1]
        rfl
    · have a0 : ¬ a < 0 := fun z => by
        have := Int32.lt_of_le_of_lt h1 z
        exact absurd this (nI_pos (by omega))
      refine ⟨-2, h, h, ?_, ?_, keep⟩
      · rw [if_neg ?_, r1, if_neg (Int32.not_lt.mpr h1)]
        intro z
        exact a0 (Int32.lt_trans z (by decide))
      · rw [if_neg am, if_neg a0, r2, if_pos h1]
        rfl
    · refine ⟨h.1 4 2 0, xsI h 4 2 0 (nI j), xsI (xsI h 4 2 0 (nI j)) 12 21 0 (nI j), ?_, ?_, good (Or.inr ⟨j, hj', rfl⟩)⟩
      · rw [if_neg ?_, r1, if_pos (nI_lt hj' (by omega))]
        intro z
        exact nI_pos (n := j) (by omega) (Int32.lt_trans z (by decide))
      · rw [if_neg am, if_neg (nI_pos (by omega)), rdI (by decide), r2, if_neg (nI_ge hj' (by omega))]
        show some ((xsI h 4 2 0 (nI j)).1 12 21 0, xsI (xsI h 4 2 0 (nI j)) 12 21 0 (nI j)) = _
        rw [rdI (by decide), f1]
