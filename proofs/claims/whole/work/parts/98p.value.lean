/-! PURE: rule: a value, both sides -/
def np (l : List (Nat × Nat)) : Nat := (l.filter (fun t => decide (t.1 ≤ 1))).length
theorem np_a {l m : List (Nat × Nat)} : np (l ++ m) = np l + np m := by
  unfold np
  rw [List.filter_append, List.length_append]
def exG (l : List (Nat × Nat)) : Prop := ∀ (w : Nat → Int64) (N : Nat) (st : List Int64), st.length + np l ≤ N → ∃ x, evs w N l st = some (x :: st)
/-- what both hold while a rule is read -/
def rz (a b : xH) (R L C k : Nat) : Prop := a.2.2.1 3 1 0 = some R ∧ R < 6 ∧ a.1 2 2 R = nI L ∧ b.1 12 11 0 = nI R ∧ b.2.2.2.1 49 0 R = nI C ∧ a.1 3 3 0 = nI k ∧ b.1 12 12 0 = nI k ∧ k ≤ 60 ∧ C ≤ L
def ex (a b a' b' : xH) (R L C k : Nat) (l : List (Nat × Nat)) (k' : Nat) : Prop := apC a a' R L l ∧ apM b b' R C l ∧ a'.1 3 3 0 = nI k' ∧ b'.1 12 12 0 = nI k' ∧ k' ≤ 60 ∧ k + np l ≤ k'
theorem rz_ex {a b a' b' : xH} {R L C k k' : Nat} {l : List (Nat × Nat)} (h : rz a b R L C k) (x : ex a b a' b' R L C k l k') (f : a'.2.2.1 = a.2.2.1) (g : b'.1 12 11 0 = b.1 12 11 0) : rz a' b' R (L + l.length) (C + l.length) k' := by
  obtain ⟨h1, h2, h3, h4, h5, h6, h7, h8, h9⟩ := h
  obtain ⟨x1, x2, x3, x4, x5, x6⟩ := x
  exact ⟨by rw [f]; exact h1, h2, x1.1, g.trans h4, x2.1, x3, x4, x5, by omega⟩
theorem ex_t {a b a1 b1 a2 b2 : xH} {R L C k k1 k2 : Nat} {l m : List (Nat × Nat)} (x : ex a b a1 b1 R L C k l k1) (y : ex a1 b1 a2 b2 R (L + l.length) (C + l.length) k1 m k2) : ex a b a2 b2 R L C k (l ++ m) k2 := by
  obtain ⟨x1, x2, x3, x4, x5, x6⟩ := x
  obtain ⟨y1, y2, y3, y4, y5, y6⟩ := y
  exact ⟨apC_t x1 y1, apM_t x2 y2, y3, y4, y5, by rw [np_a]; omega⟩
/-- the stores may differ in what the code does not touch -/
theorem ex_of {a b a' b' c d : xH} {R L C k k' : Nat} {l : List (Nat × Nat)} (e1 : ∀ z, c.1 2 z R = a.1 2 z R) (e2 : c.2.2.2.1 18 R = a.2.2.2.1 18 R) (e3 : d.2.2.2.1 48 0 = b.2.2.2.1 48 0) (x : ex c d a' b' R L C k l k') : ex a b a' b' R L C k l k' := by
  obtain ⟨⟨x1, x2, x3, x4⟩, ⟨y1, y2, y3⟩, x5⟩ := x
  exact ⟨⟨x1, fun j hj => by rw [x2 j hj, e2], x3, by rw [← e1]; exact x4⟩, ⟨y1, fun j hj => by rw [y2 j hj, e3], y3⟩, x5⟩
def os (a b a' b' : xH) (t : Nat) (B : Nat → Nat) (R L C k p : Nat) (r : Int32) : Prop := (r = 1 ∧ a'.1 7 9 0 = 0 ∧ b'.1 12 9 0 = 0 ∧ ∃ l k' p', ex a b a' b' R L C k l k' ∧ l.length + p ≤ p' ∧ p < p' ∧ sy a' b' t B p' ∧ exG l) ∨ (r = 0 ∧ fk a' b' t B)
theorem nx_gt {B : Nat → Nat} {t p : Nat} (h : p < t) : p + 1 ≤ nxB B t p := by
  unfold nxB
  rw [if_pos h]
  have := enB_gt (B := B) (t := t) (p := p)
  exact Nat.le_trans this (rn_ge _)
def wd12 (B : Nat → Nat) (t p : Nat) (v : Int32) : Prop := (∃ i, i < 12 ∧ v = nI i ∧ isWd B t p i) ∨ (v = -1 ∧ ∀ i, i < 12 → ¬ isWd B t p i)
theorem m_wordHere {h : xH} {t p : Nat} {B : Nat → Nat} (hm : mat h t B p) (hp : rn isSB B t p = p) : ∃ v, f_M_wordHere h = some (v, h) ∧ wd12 B t p v := by
  have w0 := fun i (hi : i < 20) c (hc : c = lN (pkW i)) => m_isW (c := c) hm hp hi hc
  have s0 : f_M_wordHere h = (f_M_isWord 126922498666359 h).bind (fun q3 => if q3.1 = 0 then (f_M_isWord 131277443786868 q3.2).bind (fun q7 => if q7.1 = 0 then (f_M_isWord 1953066341 q7.2).bind (fun q11 => if q11.1 = 0 then (f_M_isWord 1684366704 q11.2).bind (fun q15 => if q15.1 = 0 then (f_M_isWord 1870030194 q15.2).bind (fun q19 => if q19.1 = 0 then (f_M_isWord 1835101817 q19.2).bind (fun q23 => if q23.1 = 0 then (f_M_isWord 465726042981 q23.2).bind (fun q27 => if q27.1 = 0 then (f_M_isWord 1818584692 q27.2).bind (fun q31 => if q31.1 = 0 then (f_M_isWord 1819238756 q31.2).bind (fun q35 => if q35.1 = 0 then (f_M_isWord 1919251316 q35.2).bind (fun q39 => if q39.1 = 0 then (f_M_isWord 120299592184933 q39.2).bind (fun q43 => if q43.1 = 0 then (f_M_isWord 1937007984 q43.2).bind (fun q47 => if q47.1 = 0 then some (-1, q47.2) else some (11, q47.2)) else some (10, q43.2)) else some (9, q39.2)) else some (8, q35.2)) else some (7, q31.2)) else some (6, q27.2)) else some (5, q23.2)) else some (4, q19.2)) else some (3, q15.2)) else some (2, q11.2)) else some (1, q7.2)) else some (0, q3.2)) := rfl
  rw [s0, w0 0 (by decide) _ k0, Option.bind_some]
  by_cases a0 : isWd B t p 0
  · exact ⟨0, by rw [ind_t a0, if_neg i1], Or.inl ⟨0, by decide, rfl, a0⟩⟩
  rw [ind_f a0, if_pos rfl, w0 1 (by decide) _ (by decide +kernel), Option.bind_some]
  by_cases a1 : isWd B t p 1
  · exact ⟨1, by rw [ind_t a1, if_neg i1], Or.inl ⟨1, by decide, rfl, a1⟩⟩
  rw [ind_f a1, if_pos rfl, w0 2 (by decide) _ (by decide +kernel), Option.bind_some]
  by_cases a2 : isWd B t p 2
  · exact ⟨2, by rw [ind_t a2, if_neg i1], Or.inl ⟨2, by decide, rfl, a2⟩⟩
  rw [ind_f a2, if_pos rfl, w0 3 (by decide) _ (by decide +kernel), Option.bind_some]
  by_cases a3 : isWd B t p 3
  · exact ⟨3, by rw [ind_t a3, if_neg i1], Or.inl ⟨3, by decide, rfl, a3⟩⟩
  rw [ind_f a3, if_pos rfl, w0 4 (by decide) _ (by decide +kernel), Option.bind_some]
  by_cases a4 : isWd B t p 4
  · exact ⟨4, by rw [ind_t a4, if_neg i1], Or.inl ⟨4, by decide, rfl, a4⟩⟩
  rw [ind_f a4, if_pos rfl, w0 5 (by decide) _ (by decide +kernel), Option.bind_some]
  by_cases a5 : isWd B t p 5
  · exact ⟨5, by rw [ind_t a5, if_neg i1], Or.inl ⟨5, by decide, rfl, a5⟩⟩
  rw [ind_f a5, if_pos rfl, w0 6 (by decide) _ (by decide +kernel), Option.bind_some]
  by_cases a6 : isWd B t p 6
  · exact ⟨6, by rw [ind_t a6, if_neg i1], Or.inl ⟨6, by decide, rfl, a6⟩⟩
  rw [ind_f a6, if_pos rfl, w0 7 (by decide) _ (by decide +kernel), Option.bind_some]
  by_cases a7 : isWd B t p 7
  · exact ⟨7, by rw [ind_t a7, if_neg i1], Or.inl ⟨7, by decide, rfl, a7⟩⟩
  rw [ind_f a7, if_pos rfl, w0 8 (by decide) _ (by decide +kernel), Option.bind_some]
  by_cases a8 : isWd B t p 8
  · exact ⟨8, by rw [ind_t a8, if_neg i1], Or.inl ⟨8, by decide, rfl, a8⟩⟩
  rw [ind_f a8, if_pos rfl, w0 9 (by decide) _ (by decide +kernel), Option.bind_some]
  by_cases a9 : isWd B t p 9
  · exact ⟨9, by rw [ind_t a9, if_neg i1], Or.inl ⟨9, by decide, rfl, a9⟩⟩
  rw [ind_f a9, if_pos rfl, w0 10 (by decide) _ (by decide +kernel), Option.bind_some]
  by_cases a10 : isWd B t p 10
  · exact ⟨10, by rw [ind_t a10, if_neg i1], Or.inl ⟨10, by decide, rfl, a10⟩⟩
  rw [ind_f a10, if_pos rfl, w0 11 (by decide) _ (by decide +kernel), Option.bind_some]
  by_cases a11 : isWd B t p 11
  · exact ⟨11, by rw [ind_t a11, if_neg i1], Or.inl ⟨11, by decide, rfl, a11⟩⟩
  refine ⟨-1, by rw [ind_f a11, if_pos rfl], Or.inr ⟨rfl, fun i hi => ?_⟩⟩
  rcases (show i = 0 ∨ i = 1 ∨ i = 2 ∨ i = 3 ∨ i = 4 ∨ i = 5 ∨ i = 6 ∨ i = 7 ∨ i = 8 ∨ i = 9 ∨ i = 10 ∨ i = 11 by omega) with rfl | rfl | rfl | rfl | rfl | rfl | rfl | rfl | rfl | rfl | rfl | rfl <;> assumption
