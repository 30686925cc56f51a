/-! PURE: rule: the reference's stack of signs, many at once -/
def tk0 (l : List Nat) : List (Nat × Nat) := l.map (fun x => (x, 0))
theorem m_lays {v R d : Nat} {S : List Nat} (h0 : 1 ≤ v) (hv3 : v ≤ 3) (hR : R < 6) (hs : ∀ x T, S = x :: T → str x < v) : ∀ (π : List Nat) (b : xH) (C : Nat), (∀ x, x ∈ π → (x = 12 ∨ x = 13) ∧ v ≤ str x) → tz b d (π ++ S) → (π ++ S).length ≤ 400 → b.1 12 11 0 = nI R → b.2.2.2.1 49 0 R = nI C → C + π.length ≤ 400 → ∃ b', f_M_layDown_l0 (nI v) b = some b' ∧ tz b' d S ∧ apM b b' R C (tk0 π) ∧ tfM R b b' ∧ (∀ k, ¬ (k = 13 ∨ k = 16) → b'.1 12 k 0 = b.1 12 k 0)
  | [], b, C, hp, hz, h4, e11, hC, hC4 => ⟨b, m_lay0 hz h4 hv3 hs, hz, ⟨hC, fun _ _ => rfl, fun i hi => absurd hi (Nat.not_lt_zero i)⟩, tfM_r R b, fun _ _ => rfl⟩
  | x :: π, b, C, hp, hz, h4, e11, hC, hC4 => by
    have l4 : (π ++ S).length + 1 ≤ 400 := h4
    have c4 : C + (π.length + 1) ≤ 400 := hC4
    obtain ⟨hx, hv⟩ := hp x (List.mem_cons_self ..)
    have x11 : ¬ x = 11 := by omega
    obtain ⟨b1, e1, z1, m1, f1, k1⟩ := m_lay1 (S := π ++ S) hz (by omega) hv h0 hR e11 hC (by omega) (fun z => absurd z x11)
    rw [if_neg x11] at z1
    obtain ⟨b2, e2, z2, m2, f2, k2⟩ := m_lays h0 hv3 hR hs π b1 (C + 1) (fun y hy => hp y (List.mem_cons_of_mem _ hy)) z1 (by omega) (by rw [k1 11 (by decide)]; exact e11) m1.1 (by omega)
    exact ⟨b2, e1.trans e2, z2, apM_t (l := [(x, 0)]) m1 m2, tfM_t f1 f2, fun k hk => (k2 k hk).trans (k1 k hk)⟩
theorem stK_m {A : Nat → Int32} {y : Nat} (hy : y < 1000) : ∀ {S : List Nat}, (∀ x, x ∈ S → x < 1000) → stK A S → (y ∈ S ↔ ∃ j, j < S.length ∧ A j = nI y)
  | [], _, _ => ⟨fun z => by (cases z), fun ⟨j, hj, _⟩ => absurd hj (Nat.not_lt_zero j)⟩
  | x :: S, hl, h => by
    have ih := stK_m hy (S := S) (fun z hz => hl z (List.mem_cons_of_mem _ hz)) h.2
    have x9 := hl x (List.mem_cons_self ..)
    constructor
    · intro z
      rcases List.mem_cons.mp z with z | z
      · exact ⟨S.length, Nat.lt_succ_self _, by rw [h.1, z]⟩
      · obtain ⟨j, hj, e⟩ := ih.mp z
        exact ⟨j, Nat.lt_succ_of_lt hj, e⟩
    · rintro ⟨j, hj, e⟩
      have hj : j < S.length + 1 := hj
      by_cases z : j = S.length
      · subst z
        rw [h.1] at e
        exact List.mem_cons.mpr (Or.inl ((nI_eq (by omega) (by omega)).mp e).symm)
      · exact List.mem_cons.mpr (Or.inr (ih.mpr ⟨j, by omega, e⟩))
theorem m_inside0 {b : xH} {d : Nat} {S : List Nat} (h : tz b d S) (h4 : S.length ≤ 400) : f_M_isInside_0 b = some (ind (91 ∈ S)) := by
  obtain ⟨h1, h2, h3, h5, h6⟩ := h
  have mem := stK_m (y := 91) (by decide) (fun x hx => by have := h5 x hx; omega) h3
  have key := whl_cntE (step := fun s : Int32 => f_M_isInside_0_s2 s b) S.length (fun k s => s = nI k ∧ ∀ j, j < k → ¬ b.2.2.2.1 53 0 j = nI 91) (fun x => x = ind (91 ∈ S)) (by
    rintro k hk s ⟨rfl, hn⟩
    have e : f_M_isInside_0_s2 (nI k) b = (if b.1 12 16 0 ≤ nI k then some (Sum.inr 0) else if xib (nI k) 400 then (if b.2.2.2.1 53 0 (nI k).toNatClampNeg = 91 then some (Sum.inr 1) else some (Sum.inl (nI k + 1))) else none) := rfl
    rw [h1, if_neg (nI_ge hk (by omega)), if_pos (xibN (by omega) (by decide))] at e
    by_cases z : b.2.2.2.1 53 0 k = nI 91
    · rw [if_pos (show b.2.2.2.1 53 0 (nI k).toNatClampNeg = 91 by rw [nI_clamp (by omega)]; exact z)] at e
      exact Or.inr ⟨1, e, (ind_t (mem.mpr ⟨k, hk, z⟩)).symm⟩
    · rw [if_neg (show ¬ b.2.2.2.1 53 0 (nI k).toNatClampNeg = 91 by rw [nI_clamp (by omega)]; exact z), nI_1] at e
      refine Or.inl ⟨nI (k + 1), e, rfl, fun j hj => ?_⟩
      by_cases y : j = k
      · subst y; exact z
      · exact hn j (by omega)) (by
    rintro s ⟨rfl, hn⟩
    refine ⟨0, ?_, (ind_f (fun z => ?_)).symm⟩
    · show (if b.1 12 16 0 ≤ nI S.length then some (Sum.inr 0) else _) = _
      rw [if_pos (by rw [h1]; exact nI_le (Nat.le_refl _) (by omega))]
    · obtain ⟨j, hj, e⟩ := mem.mp z
      exact hn j hj e) 0 ⟨nI_0.symm, fun j hj => absurd hj (Nat.not_lt_zero j)⟩
  obtain ⟨x, e, rfl⟩ := key
  exact e
/-- a sign is put on the stack -/
theorem m_opens {b : xH} {d p x R : Nat} {S : List Nat} (h : tz b d S) (h4 : S.length < 400) (hx : x = 11 ∨ x = 91) (hp : b.1 12 8 0 = nI p) : (d = 10 → f_M_opens (nI x) b = some (0, xsI b 12 9 0 (flt (b.1 12 9 0) p 2))) ∧ (d < 10 → ∃ b', f_M_opens (nI x) b = some (1, b') ∧ tz b' (d + 1) (x :: S) ∧ tfM R b b' ∧ (∀ k, ¬ (k = 13 ∨ k = 16) → b'.1 12 k 0 = b.1 12 k 0) ∧ (∀ f, ¬ f = 53 → b'.2.2.2.1 f 0 = b.2.2.2.1 f 0)) := by
  obtain ⟨h1, h2, h3, h5, h6⟩ := h
  have s0 : f_M_opens (nI x) b = (if b.1 12 13 0 = 10 then (f_M_fails 2 (b.1 12 8 0) b).bind nrm else xlet (xsI b 12 13 0 (b.1 12 13 0 + 1)) (fun h6 => if xib (h6.1 12 16 0) 400 then some (1, xsI (xsA h6 53 0 (upd (h6.2.2.2.1 53 0) (h6.1 12 16 0).toNatClampNeg (nI x))) 12 16 0 (h6.1 12 16 0 + 1)) else none)) := rfl
  rw [h2] at s0
  refine ⟨fun z => ?_, fun z => ?_⟩
  · rw [s0, if_pos (by rw [z]; rfl), hp, show (2 : Int32) = nI 2 from rfl, m_fails, Option.bind_some, nrm_01 (Or.inl rfl)]
  · obtain ⟨g, eg⟩ : ∃ g, g = xsI b 12 13 0 (nI (d + 1)) := ⟨_, rfl⟩
    rw [if_neg (show ¬ nI d = 10 from fun y => by have := (nI_eq (b := 10) (by omega) (by decide)).mp y; omega), nI_1, ← eg] at s0
    have g16 : g.1 12 16 0 = nI S.length := by rw [eg, rdI (by decide)]; exact h1
    have s1 : f_M_opens (nI x) b = (if xib (g.1 12 16 0) 400 then some (1, xsI (xsA g 53 0 (upd (g.2.2.2.1 53 0) (g.1 12 16 0).toNatClampNeg (nI x))) 12 16 0 (g.1 12 16 0 + 1)) else none) := s0
    rw [g16, if_pos (xibN h4 (by decide)), nI_clamp (by omega), nI_1] at s1
    obtain ⟨g2, eg2⟩ : ∃ g2, g2 = xsI (xsA g 53 0 (upd (g.2.2.2.1 53 0) S.length (nI x))) 12 16 0 (nI (S.length + 1)) := ⟨_, rfl⟩
    rw [← eg2] at s1
    have r53 : g2.2.2.2.1 53 0 = upd (b.2.2.2.1 53 0) S.length (nI x) := by rw [eg2]; show (xsA g 53 0 _).2.2.2.1 53 0 = _; rw [rdA_s, eg]; rfl
    have rA : ∀ f i, ¬ (f = 53 ∧ i = 0) → g2.2.2.2.1 f i = b.2.2.2.1 f i := fun f i y => by rw [eg2]; show (xsA g 53 0 _).2.2.2.1 f i = _; rw [rdA_n y, eg]; rfl
    have rI : ∀ c k i, ¬ (c = 12 ∧ (k = 13 ∨ k = 16)) → g2.1 c k i = b.1 c k i := fun c k i y => by rw [eg2, rdI (by omega)]; show g.1 c k i = _; rw [eg, rdI (by omega)]
    refine ⟨g2, s1, ⟨by rw [eg2, rdI_s]; rfl, ?_, ⟨by rw [r53, pk_us], stK_c (fun j hj => by rw [r53, pk_un (by omega)]) h3⟩, fun y hy => ?_, by omega⟩, ⟨fun c k i y => rI c k i (by omega), fun f i y => rA f i (by omega), fun j _ => by rw [rA 49 0 (by decide)], fun j _ => by rw [rA 48 0 (by decide)]⟩, fun k hk => rI 12 k 0 (by omega), fun f hf => rA f 0 (by omega)⟩
    · rw [eg2, rdI (by decide)]
      show g.1 12 13 0 = _
      rw [eg, rdI_s]
    · rcases List.mem_cons.mp hy with e | e
      · omega
      · exact h5 y e
/-- the words and, or, not -/
theorem kAnd : (6385252 : Int64) = lN (pkW 18) := by decide +kernel
theorem kOr : (28530 : Int64) = lN (pkW 17) := by decide +kernel
theorem kNot : (7237492 : Int64) = lN (pkW 19) := by decide +kernel
theorem kIf : (26982 : Int64) = lN (pkW 16) := by decide +kernel
theorem kLift : (1818846836 : Int64) = lN (pkW 15) := by decide +kernel
