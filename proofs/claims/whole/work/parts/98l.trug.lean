/-! PURE: trug: how both begin and end -/
theorem whl_cu {σ ρ : Type} {step : σ → Option (σ ⊕ ρ)} (n : Nat) (P : Nat → σ → Prop) (hs : ∀ k, k < n → ∀ s, P k s → ∃ s', step s = some (Sum.inl s') ∧ P (k + 1) s') : ∀ s, P 0 s → ∃ s', whl step s = whl step s' ∧ P n s' := fun s h0 => by
  have key : ∀ k, k ≤ n → ∃ s', whl step s = whl step s' ∧ P k s' := by
    intro k
    induction k with
    | zero => exact fun _ => ⟨s, rfl, h0⟩
    | succ k ih =>
      intro hk
      obtain ⟨s1, e1, p1⟩ := ih (by omega)
      obtain ⟨s2, e2, p2⟩ := hs k (by omega) s1 p1
      exact ⟨s2, e1.trans (whl_st e2), p2⟩
  exact key n (Nat.le_refl n)
def clF (h h1 : xH) : Prop := (∀ c k i, ¬ (c = 8 ∧ i = 5) → h1.1 c k i = h.1 c k i) ∧ ∀ f i, ¬ (37 ≤ f ∧ f ≤ 41 ∧ i = 5) → h1.2.2.2.1 f i = h.2.2.2.1 f i
theorem c_clear69 {g : xH} : ∃ x, f_Told_clear_l69 5 0 g = some x ∧ x.1 = g.1 ∧ (∀ j, j < 4 → x.2.2.2.1 41 5 j = 0) ∧ ∀ f i, ¬ (f = 41 ∧ i = 5) → x.2.2.2.1 f i = g.2.2.2.1 f i := by
  refine whl_cntE (step := fun s : Int32 × xH => f_Told_clear_s69 5 s.1 s.2) 4 (fun k s => s.1 = nI k ∧ s.2.1 = g.1 ∧ (∀ j, j < k → s.2.2.2.2.1 41 5 j = 0) ∧ ∀ f i, ¬ (f = 41 ∧ i = 5) → s.2.2.2.2.1 f i = g.2.2.2.1 f i) _ ?_ ?_ (0, g) ⟨nI_0.symm, rfl, fun j hj => absurd hj (by omega), fun _ _ _ => rfl⟩
  · rintro k hk ⟨v, x⟩ ⟨rfl, h1, h2, h3⟩
    refine Or.inl ⟨(nI (k + 1), xsA x 41 5 (upd (x.2.2.2.1 41 5) k 0)), ?_, rfl, h1, fun j hj => ?_, fun f i z => ?_⟩
    · show (if (4 : Int32) ≤ nI k then _ else if xib (nI k) 4 then some (Sum.inl (nI k + 1, xsA x 41 5 (upd (x.2.2.2.1 41 5) (nI k).toNatClampNeg 0))) else none) = _
      rw [if_neg (show ¬ (4 : Int32) ≤ nI k from nI_ge (b := 4) hk (by decide)), if_pos (xibN hk (by decide)), nI_clamp (by omega), nI_1]
    · show (xsA x 41 5 (upd (x.2.2.2.1 41 5) k 0)).2.2.2.1 41 5 j = 0
      rw [rdA_s]
      by_cases z : j = k
      · subst z; rw [pk_us]
      · rw [pk_un z]; exact h2 j (by omega)
    · show (xsA x 41 5 (upd (x.2.2.2.1 41 5) k 0)).2.2.2.1 f i = _
      rw [rdA_n z]; exact h3 f i z
  · rintro ⟨v, x⟩ ⟨rfl, h1, h2, h3⟩
    refine ⟨x, ?_, h1, h2, h3⟩
    show (if (4 : Int32) ≤ nI 4 then some (Sum.inr x) else _) = _
    rw [if_pos (by decide)]
theorem c_clear {h : xH} : ∃ h1, f_Told_clear 5 h = some h1 ∧ (∀ k, k < 5 → h1.1 8 k 5 = 0) ∧ (∀ k, k < 8 → h1.2.2.2.1 40 5 k = 0) ∧ (∀ k, k < 4 → h1.2.2.2.1 41 5 k = 0) ∧ clF h h1 := by
  obtain ⟨g, eg⟩ : ∃ g, g = xsI (xsI (xsI (xsI (xsI h 8 0 5 0) 8 1 5 0) 8 2 5 0) 8 3 5 0) 8 4 5 0 := ⟨_, rfl⟩
  have s0 : f_Told_clear 5 h = f_Told_clear_l27 5 0 g := by rw [eg]; rfl
  have gI : ∀ c k i, ¬ (c = 8 ∧ i = 5) → g.1 c k i = h.1 c k i := fun c k i z => by rw [eg, rdI_3 (by omega), rdI_3 (by omega), rdI_3 (by omega), rdI_3 (by omega), rdI_3 (by omega)]
  have g8 : ∀ k, k < 5 → g.1 8 k 5 = 0 := fun k hk => by
    rw [eg]
    rcases (show k = 0 ∨ k = 1 ∨ k = 2 ∨ k = 3 ∨ k = 4 by omega) with rfl | rfl | rfl | rfl | rfl
    · rw [rdI (by decide), rdI (by decide), rdI (by decide), rdI (by decide), rdI_s]
    · rw [rdI (by decide), rdI (by decide), rdI (by decide), rdI_s]
    · rw [rdI (by decide), rdI (by decide), rdI_s]
    · rw [rdI (by decide), rdI_s]
    · rw [rdI_s]
  have gA : ∀ f i, g.2.2.2.1 f i = h.2.2.2.1 f i := fun f i => by rw [eg]; rfl
  rw [s0]
  refine whl_cntE (step := fun s : Int32 × xH => f_Told_clear_s27 5 s.1 s.2) 8 (fun k s => s.1 = nI k ∧ s.2.1 = g.1 ∧ (∀ j, j < k → s.2.2.2.2.1 40 5 j = 0) ∧ ∀ f i, ¬ (37 ≤ f ∧ f ≤ 40 ∧ i = 5) → s.2.2.2.2.1 f i = g.2.2.2.1 f i) _ ?_ ?_ (0, g) ⟨nI_0.symm, rfl, fun j hj => absurd hj (by omega), fun _ _ _ => rfl⟩
  · rintro k hk ⟨v, x⟩ ⟨rfl, h1, h2, h3⟩
    have e8 : xib (nI k) 8 := xibN hk (by decide)
    obtain ⟨x1, ex1⟩ : ∃ x1, x1 = xsA x 37 5 (upd (x.2.2.2.1 37 5) (nI k).toNatClampNeg 0) := ⟨_, rfl⟩
    obtain ⟨x2, ex2⟩ : ∃ x2, x2 = xsA x1 38 5 (upd (x1.2.2.2.1 38 5) (nI k).toNatClampNeg 0) := ⟨_, rfl⟩
    obtain ⟨x3, ex3⟩ : ∃ x3, x3 = xsA x2 39 5 (upd (x2.2.2.2.1 39 5) (nI k).toNatClampNeg 0) := ⟨_, rfl⟩
    obtain ⟨x4, ex4⟩ : ∃ x4, x4 = xsA x3 40 5 (upd (x3.2.2.2.1 40 5) (nI k).toNatClampNeg 0) := ⟨_, rfl⟩
    have st : f_Told_clear_s27 5 (nI k) x = some (Sum.inl (nI (k + 1), x4)) := by
      show (if (8 : Int32) ≤ nI k then _ else if xib (nI k) 8 then xlet (xsA x 37 5 (upd (x.2.2.2.1 37 5) (nI k).toNatClampNeg 0)) (fun h12 => if xib (nI k) 8 then xlet (xsA h12 38 5 (upd (h12.2.2.2.1 38 5) (nI k).toNatClampNeg 0)) (fun h14 => if xib (nI k) 8 then xlet (xsA h14 39 5 (upd (h14.2.2.2.1 39 5) (nI k).toNatClampNeg 0)) (fun h16 => if xib (nI k) 8 then some (Sum.inl (nI k + 1, xsA h16 40 5 (upd (h16.2.2.2.1 40 5) (nI k).toNatClampNeg 0))) else none) else none) else none) else none) = _
      rw [if_neg (show ¬ (8 : Int32) ≤ nI k from nI_ge (b := 8) hk (by decide)), if_pos e8, ← ex1]
      show (if xib (nI k) 8 then xlet (xsA x1 38 5 (upd (x1.2.2.2.1 38 5) (nI k).toNatClampNeg 0)) (fun h14 => if xib (nI k) 8 then xlet (xsA h14 39 5 (upd (h14.2.2.2.1 39 5) (nI k).toNatClampNeg 0)) (fun h16 => if xib (nI k) 8 then some (Sum.inl (nI k + 1, xsA h16 40 5 (upd (h16.2.2.2.1 40 5) (nI k).toNatClampNeg 0))) else none) else none) else none) = _
      rw [if_pos e8, ← ex2]
      show (if xib (nI k) 8 then xlet (xsA x2 39 5 (upd (x2.2.2.2.1 39 5) (nI k).toNatClampNeg 0)) (fun h16 => if xib (nI k) 8 then some (Sum.inl (nI k + 1, xsA h16 40 5 (upd (h16.2.2.2.1 40 5) (nI k).toNatClampNeg 0))) else none) else none) = _
      rw [if_pos e8, ← ex3]
      show (if xib (nI k) 8 then some (Sum.inl (nI k + 1, xsA x3 40 5 (upd (x3.2.2.2.1 40 5) (nI k).toNatClampNeg 0))) else none) = _
      rw [if_pos e8, ← ex4, nI_1]
    rw [nI_clamp (by omega)] at ex1 ex2 ex3 ex4
    refine Or.inl ⟨(nI (k + 1), x4), st, rfl, ?_, fun j hj => ?_, fun f i z => ?_⟩
    · show x4.1 = g.1
      rw [ex4, ex3, ex2, ex1]; exact h1
    · show x4.2.2.2.1 40 5 j = 0
      rw [ex4, rdA_s]
      by_cases z : j = k
      · subst z; rw [pk_us]
      · rw [pk_un z, ex3, rdA_n (by decide), ex2, rdA_n (by decide), ex1, rdA_n (by decide)]; exact h2 j (by omega)
    · show x4.2.2.2.1 f i = _
      rw [ex4, rdA_n (by omega), ex3, rdA_n (by omega), ex2, rdA_n (by omega), ex1, rdA_n (by omega)]; exact h3 f i z
  · rintro ⟨v, x⟩ ⟨rfl, h1, h2, h3⟩
    have h1 : x.1 = g.1 := h1
    obtain ⟨y, ey, y1, y2, y3⟩ := c_clear69 (g := x)
    refine ⟨y, ?_, fun k hk => by rw [y1, h1]; exact g8 k hk, fun k hk => by rw [y3 40 5 (by decide)]; exact h2 k hk, y2, fun c k i z => by rw [y1, h1]; exact gI c k i z, fun f i z => by rw [y3 f i (by omega), ← gA f i]; exact h3 f i (by omega)⟩
    show (if (8 : Int32) ≤ nI 8 then xup (f_Told_clear_l69 5 0 x) else _) = _
    rw [if_pos (by decide), ey]
    rfl
/-- the class begins to read -/
theorem c_startT {h : xH} {t : Nat} {B : Nat → Nat} (hc : ctx h t B) : ∃ a, f_TrugReader_readAll h = f_TrugReader_readAll_l31 1 0 a ∧ tR a t B (rn isSB B t 0) ∧ a.1 7 9 0 = 0 ∧ rcF h a ∧ a.1 9 2 0 = nI 0 ∧ ∀ b, (∀ k, k < 80 → rd b k = 0) → dD a b 0 0 := by
  obtain ⟨h1, e1, k8, k40, k41, f1⟩ := c_clear (h := h)
  obtain ⟨g, eg⟩ : ∃ g, g = xsI (xsI h1 8 0 5 1) 9 2 0 0 := ⟨_, rfl⟩
  have cg : ctx g t B := ctx_of (by rw [eg, rdI (by decide), rdI (by decide)]; exact f1.1 7 6 0 (by decide)) (by rw [eg]; exact f1.2 33 0 (by decide)) hc
  obtain ⟨a, ea, ta, fa, wa⟩ := c_rewind cg
  have a8 : ∀ k, 1 ≤ k → k < 5 → a.1 8 k 5 = 0 := fun k h0 hk => by rw [fa.1 8 k 5 (by omega), eg, rdI (by omega), rdI (by omega)]; exact k8 k hk
  have aA : ∀ f, 37 ≤ f → f ≤ 41 → a.2.2.2.1 f 5 = h1.2.2.2.1 f 5 := fun f p q => by rw [fa.2 f 5 (by omega), eg]; rfl
  refine ⟨a, ?_, ta, wa, ⟨fun c k i p q r => ?_, fun f i p q => ?_⟩, by rw [fa.1 9 2 0 (by decide), eg, rdI_s]; rfl, fun b hb => ?_⟩
  · show (f_Told_clear 5 h).bind (fun h3 => (f_Tape_rewind (xsI (xsI h3 8 0 5 1) 9 2 0 0)).bind (fun h8 => f_TrugReader_readAll_l31 1 0 h8)) = _
    rw [e1, Option.bind_some, ← eg, ea, Option.bind_some]
  · rw [fa.1 c k i p, eg, rdI_3 (by omega), rdI_3 (by omega)]
    exact f1.1 c k i q
  · rw [fa.2 f i p, eg]
    exact f1.2 f i (by omega)
  · refine ⟨by rw [fa.1 8 0 5 (by decide), eg, rdI (by decide), rdI_s], (a8 3 (by decide) (by decide)).trans nI_0.symm, (hb 3 (by decide)).trans nI_0.symm, by decide, (a8 4 (by decide) (by decide)).trans nI_0.symm, (hb 4 (by decide)).trans nI_0.symm, by decide, by rw [hb 1 (by decide)]; exact a8 1 (by decide) (by decide), by rw [hb 2 (by decide)]; exact a8 2 (by decide) (by decide), ⟨0, by decide, (hb 1 (by decide)).trans nI_0.symm⟩, ⟨0, by decide, (hb 2 (by decide)).trans nI_0.symm⟩, fun k hk => absurd hk (by omega), fun k hk => ⟨?_, 0, by decide, (hb (72 + k) (by omega)).trans nI_0.symm⟩, fun k hk => absurd hk (by omega), fun k _ hk => ?_⟩
    · rw [hb (72 + k) (by omega), aA 40 (by decide) (by decide)]
      exact k40 k hk
    · rw [aA 41 (by decide) (by decide)]
      exact k41 k hk
/-- the reference begins to read -/
def msF (b b0 : xH) : Prop := (∀ c k i, ¬ (c = 12 ∧ (k = 8 ∨ k = 9 ∨ k = 11 ∨ k = 12 ∨ k = 14)) → b0.1 c k i = b.1 c k i) ∧ (∀ f i, ¬ ((f = 52 ∨ f = 49) ∧ i = 0) → b0.2.2.2.1 f i = b.2.2.2.1 f i) ∧ ∀ j, j ≠ 6 → b0.2.2.2.1 49 0 j = b.2.2.2.1 49 0 j
theorem m_start {b : xH} {t : Nat} {B : Nat → Nat} (hm : mtx b t B) : ∃ b0, (∀ q, f_M_clauseHere b0 = some q → f_M_trug b = (f_M_readsAll_l35 q.1 q.2).bind (fun q5 => if q5.1 = 0 then some (-2 - q5.2.1 12 9 0, q5.2) else f_M_trug_l44 0 q5.2)) ∧ mat b0 t B 0 ∧ b0.1 12 9 0 = 0 ∧ b0.1 12 14 0 = nI 0 ∧ b0.1 12 11 0 = 6 ∧ (∀ k, k < 80 → rd b0 k = 0) ∧ msF b b0 := by
  obtain ⟨g, eg⟩ : ∃ g, g = xsI b 12 11 0 6 := ⟨_, rfl⟩
  have s0 : f_M_trug b = f_M_trug_l8 0 g := by rw [eg]; rfl
  have lp := whl_cu (step := fun s : Int32 × xH => f_M_trug_s8 s.1 s.2) 80 (fun k s => s.1 = nI k ∧ s.2.1 = g.1 ∧ (∀ j, j < k → s.2.2.2.2.1 52 0 j = 0) ∧ ∀ f i, ¬ (f = 52 ∧ i = 0) → s.2.2.2.2.1 f i = g.2.2.2.1 f i) (by
    rintro k hk ⟨v, x⟩ ⟨rfl, h1, h2, h3⟩
    refine ⟨(nI (k + 1), xsA x 52 0 (upd (x.2.2.2.1 52 0) k 0)), ?_, rfl, h1, fun j hj => ?_, fun f i z => ?_⟩
    · show (if (80 : Int32) ≤ nI k then _ else if xib (nI k) 80 then some (Sum.inl (nI k + 1, xsA x 52 0 (upd (x.2.2.2.1 52 0) (nI k).toNatClampNeg 0))) else none) = _
      rw [if_neg (show ¬ (80 : Int32) ≤ nI k from nI_ge (b := 80) hk (by decide)), if_pos (xibN hk (by decide)), nI_clamp (by omega), nI_1]
    · show (xsA x 52 0 (upd (x.2.2.2.1 52 0) k 0)).2.2.2.1 52 0 j = 0
      rw [rdA_s]
      by_cases z : j = k
      · subst z; rw [pk_us]
      · rw [pk_un z]; exact h2 j (by omega)
    · show (xsA x 52 0 (upd (x.2.2.2.1 52 0) k 0)).2.2.2.1 f i = _
      rw [rdA_n z]; exact h3 f i z) (0, g) ⟨nI_0.symm, rfl, fun j hj => absurd hj (by omega), fun _ _ _ => rfl⟩
  obtain ⟨⟨v, x⟩, e1, rfl, h1, h2, h3⟩ := lp
  have h1 : x.1 = g.1 := h1
  have e2 : f_M_trug_l8 (nI 80) x = (f_M_readsAll x).bind (fun q5 => if q5.1 = 0 then some (-2 - q5.2.1 12 9 0, q5.2) else f_M_trug_l44 0 q5.2) := by
    refine whl_up ?_
    show (if (80 : Int32) ≤ nI 80 then _ else _) = _
    rw [if_pos (by decide)]
    rfl
  have x11 : x.1 12 11 0 = 6 := by rw [h1, eg, rdI_s]
  obtain ⟨y, ey⟩ : ∃ y, y = xsA x 49 0 (upd (x.2.2.2.1 49 0) 6 0) := ⟨_, rfl⟩
  obtain ⟨b0, eb0⟩ : ∃ b0, b0 = xsI (xsI (xsI (xsI y 12 14 0 0) 12 8 0 0) 12 9 0 0) 12 12 0 0 := ⟨_, rfl⟩
  have rA : ∀ q, f_M_clauseHere b0 = some q → f_M_readsAll x = f_M_readsAll_l35 q.1 q.2 := fun q eq => by
    have r0 : f_M_readsAll x = (if xib (x.1 12 11 0) 7 then xlet (xsA x 49 0 (upd (x.2.2.2.1 49 0) (x.1 12 11 0).toNatClampNeg 0)) (fun h2 => (f_M_clauseHere (xsI (xsI (xsI (xsI h2 12 14 0 0) 12 8 0 0) 12 9 0 0) 12 12 0 0)).bind (fun q9 => f_M_readsAll_l35 q9.1 q9.2)) else none) := rfl
    rw [x11, if_pos (show xib (6 : Int32) 7 from xibN (j := 6) (by decide) (by decide)), show ((6 : Int32)).toNatClampNeg = 6 from rfl, ← ey] at r0
    have r1 : f_M_readsAll x = (f_M_clauseHere (xsI (xsI (xsI (xsI y 12 14 0 0) 12 8 0 0) 12 9 0 0) 12 12 0 0)).bind (fun q9 => f_M_readsAll_l35 q9.1 q9.2) := r0
    rw [r1, ← eb0, eq, Option.bind_some]
  have bI : ∀ c k i, ¬ (c = 12 ∧ (k = 8 ∨ k = 9 ∨ k = 12 ∨ k = 14)) → b0.1 c k i = x.1 c k i := fun c k i z => by
    rw [eb0, rdI (by omega), rdI (by omega), rdI (by omega), rdI (by omega), ey]; rfl
  have bA : ∀ f i, b0.2.2.2.1 f i = y.2.2.2.1 f i := fun f i => by rw [eb0]; rfl
  have fr : msF b b0 := by
    refine ⟨fun c k i z => ?_, fun f i z => ?_, fun j hj => ?_⟩
    · rw [bI c k i (by omega), h1, eg, rdI (by omega)]
    · rw [bA, ey, rdA_n (by omega)]
      have := h3 f i (by omega)
      rw [show x.2.2.2.1 f i = g.2.2.2.1 f i from this, eg]; rfl
    · rw [bA, ey, rdA_s, pk_un hj]
      have := h3 49 0 (by decide)
      rw [show x.2.2.2.1 49 0 = g.2.2.2.1 49 0 from this, eg]; rfl
  refine ⟨b0, fun q eq => ?_, ⟨mtx_of (fr.1 12 1 0 (by omega)) (fr.2.1 47 0 (by omega)) hm, by rw [eb0, rdI (by decide), rdI (by decide), rdI_s]; rfl, Nat.zero_le _⟩, by rw [eb0, rdI (by decide), rdI_s], by rw [eb0, rdI (by decide), rdI (by decide), rdI (by decide), rdI_s]; rfl, by rw [bI 12 11 0 (by omega)]; exact x11, fun k hk => ?_, fr⟩
  · rw [s0, show f_M_trug_l8 0 g = f_M_trug_l8 (nI 80) x from e1, e2, rA q eq]
  · show b0.2.2.2.1 52 0 k = 0
    rw [bA, ey, rdA_n (by decide)]
    exact h2 k hk
/-- the reference ends -/
theorem m_end {b : xH} : ∃ A, f_M_trug_l44 0 b = some (bgV A 3, xsI (xsA b 56 0 (bgV A)) 12 24 0 0) ∧ (∀ k, k < 80 → A k = rd b k) ∧ A 100 = 0 := by
  have lp := whl_cu (step := fun s : Int32 × xH => f_M_trug_s44 s.1 s.2) 101 (fun k s => s.1 = nI k ∧ ∃ A, s.2 = xsA b 56 0 A ∧ ∀ j, j < k → A j = if j < 80 then rd b j else 0) (by
    rintro k hk ⟨v, x⟩ ⟨rfl, A, rfl, h2⟩
    refine ⟨(nI (k + 1), xsA b 56 0 (upd A k (if k < 80 then rd b k else 0))), ?_, rfl, _, rfl, fun j hj => ?_⟩
    · have e71 : ∀ t0, f_M_trug_b71 (nI k) t0 (nI k) (xsA b 56 0 A) = some (Sum.inl (nI (k + 1), xsA b 56 0 (upd A k t0))) := fun t0 => by
        show (if xib (nI k) 101 then some (Sum.inl (nI k + 1, xsA (xsA b 56 0 A) 56 0 (upd ((xsA b 56 0 A).2.2.2.1 56 0) (nI k).toNatClampNeg t0))) else none) = _
        rw [if_pos (xibN hk (by decide)), nI_clamp (by omega), rdA_s, xsA_2, nI_1]
      show (if (101 : Int32) ≤ nI k then _ else if (80 : Int32) ≤ nI k then f_M_trug_b71 (nI k) 0 (nI k) (xsA b 56 0 A) else if xib (nI k) 80 then f_M_trug_b71 (nI k) ((xsA b 56 0 A).2.2.2.1 52 0 (nI k).toNatClampNeg) (nI k) (xsA b 56 0 A) else none) = _
      rw [if_neg (show ¬ (101 : Int32) ≤ nI k from nI_ge (b := 101) hk (by decide))]
      by_cases z : k < 80
      · rw [if_neg (show ¬ (80 : Int32) ≤ nI k from nI_ge (b := 80) z (by decide)), if_pos (xibN z (by decide)), e71, nI_clamp (by omega), rdA_n (by decide), if_pos z]
        rfl
      · rw [if_pos (show (80 : Int32) ≤ nI k from nI_le (a := 80) (by omega) (by omega)), e71, if_neg z]
    · by_cases z : j = k
      · subst z; rw [pk_us]
      · rw [pk_un z]; exact h2 j (by omega)) (0, b) ⟨nI_0.symm, mS b, (xsA_id (h := b) (c := 56) (i := 0)).symm, fun j hj => absurd hj (by omega)⟩
  obtain ⟨⟨v, x⟩, e1, rfl, A, ex, h2⟩ := lp
  have ex : x = xsA b 56 0 A := ex
  subst ex
  refine ⟨A, ?_, fun k hk => by rw [h2 k (by omega), if_pos hk], by rw [h2 100 (by decide), if_neg (by decide)]⟩
  rw [show f_M_trug_l44 0 b = f_M_trug_l44 (nI 101) (xsA b 56 0 A) from e1]
  refine whl_up ?_
  show (if (101 : Int32) ≤ nI 101 then xup ((f_M_begins (xsA b 56 0 A)).bind (fun h10 => some ((xsI h10 12 24 0 0).2.2.2.1 56 0 3, xsI h10 12 24 0 0))) else _) = _
  rw [if_pos (by decide), m_begins, Option.bind_some, xsA_2]
  have em : mS (xsA b 56 0 A) = A := rdA_s
  rw [em]
  show xup (some ((xsA b 56 0 (bgV A)).2.2.2.1 56 0 3, _)) = _
  rw [rdA_s]
