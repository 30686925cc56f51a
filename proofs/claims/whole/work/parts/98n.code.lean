/-! PURE: rule: signs laid by both -/
theorem c_goOn2 {h h' : xH} (e : f_Tape_goOn h = some h') : h'.2 = h.2 := by
  have s0 : f_Tape_goOn h = (if h.1 7 5 0 + 1 < 0 then some h else if h.1 7 4 0 ≤ h.1 7 5 0 + 1 then some h else if (400 : Int32) ≤ h.1 7 5 0 then some h else xlet (xsI h 7 5 0 (h.1 7 5 0 + 1)) (fun h4 => if xib (h4.1 7 5 0) 401 then xlet (xsI h4 7 7 0 (h4.2.2.2.1 34 0 (h4.1 7 5 0).toNatClampNeg)) (fun h6 => if xib (h6.1 7 5 0) 401 then some (xsI h6 7 8 0 (h6.2.2.2.1 36 0 (h6.1 7 5 0).toNatClampNeg)) else none) else none)) := rfl
  rw [s0] at e
  split at e
  · rw [← Option.some.inj e]
  split at e
  · rw [← Option.some.inj e]
  split at e
  · rw [← Option.some.inj e]
  dsimp only [xlet] at e
  split at e
  · split at e
    · rw [← Option.some.inj e]; rfl
    · cases e
  · cases e
/-- what the class and the reference may change while a sum is read -/
def sfC (R : Nat) (a a' : xH) : Prop := (∀ c k i, ¬ (c = 7 ∧ ¬ k = 6) → ¬ (c = 2 ∧ i = R) → ¬ (c = 3 ∧ k = 3) → a'.1 c k i = a.1 c k i) ∧ (∀ f i, ¬ (i = 0 ∧ 34 ≤ f ∧ f ≤ 36) → ¬ (f = 18 ∧ i = R) → a'.2.2.2.1 f i = a.2.2.2.1 f i) ∧ a'.2.2.1 = a.2.2.1
def sfM (R : Nat) (b b' : xH) : Prop := (∀ c k i, ¬ (c = 12 ∧ ((8 ≤ k ∧ k ≤ 10) ∨ k = 12)) → b'.1 c k i = b.1 c k i) ∧ (∀ f i, ¬ ((f = 48 ∨ f = 49) ∧ i = 0) → b'.2.2.2.1 f i = b.2.2.2.1 f i) ∧ (∀ j, j ≠ R → b'.2.2.2.1 49 0 j = b.2.2.2.1 49 0 j) ∧ ∀ j, j < 400 * R → b'.2.2.2.1 48 0 j = b.2.2.2.1 48 0 j
theorem sfC_t {R : Nat} {a b c : xH} (x : sfC R a b) (y : sfC R b c) : sfC R a c := ⟨fun d k i p q r => (y.1 d k i p q r).trans (x.1 d k i p q r), fun f i p q => (y.2.1 f i p q).trans (x.2.1 f i p q), y.2.2.trans x.2.2⟩
theorem sfM_t {R : Nat} {a b c : xH} (x : sfM R a b) (y : sfM R b c) : sfM R a c := ⟨fun d k i p => (y.1 d k i p).trans (x.1 d k i p), fun f i p => (y.2.1 f i p).trans (x.2.1 f i p), fun j p => (y.2.2.1 j p).trans (x.2.2.1 j p), fun j p => (y.2.2.2 j p).trans (x.2.2.2 j p)⟩
theorem sfC_r (R : Nat) (a : xH) : sfC R a a := ⟨fun _ _ _ _ _ _ => rfl, fun _ _ _ _ => rfl, rfl⟩
theorem sfM_r (R : Nat) (a : xH) : sfM R a a := ⟨fun _ _ _ _ => rfl, fun _ _ _ => rfl, fun _ _ => rfl, fun _ _ => rfl⟩
theorem sfC_p {R : Nat} {a a' : xH} (x : tpF a a') (y : a'.2.2.1 = a.2.2.1) : sfC R a a' := ⟨fun c k i p _ _ => x.1 c k i p, fun f i p _ => x.2 f i p, y⟩
theorem sfM_p {R : Nat} {b b' : xH} (x : mnF b b') : sfM R b b' := ⟨fun c k i p => x.1 c k i (by omega), fun f i _ => by rw [x.2], fun j _ => by rw [x.2], fun j _ => by rw [x.2]⟩
theorem sfM_I {R : Nat} {b : xH} {k : Nat} {v : Int32} (h : (8 ≤ k ∧ k ≤ 10) ∨ k = 12) : sfM R b (xsI b 12 k 0 v) := ⟨fun _ _ _ p => rdI (by omega), fun _ _ _ => rfl, fun _ _ => rfl, fun _ _ => rfl⟩
/-- l is laid behind -/
def apC (a a' : xH) (R L : Nat) (l : List (Nat × Nat)) : Prop := a'.1 2 2 R = nI (L + l.length) ∧ (∀ j, j < L → a'.2.2.2.1 18 R j = a.2.2.2.1 18 R j) ∧ ckA (a'.2.2.2.1 18 R) L l ∧ (a'.1 2 3 R = 1 ∨ (a'.1 2 3 R = a.1 2 3 R ∧ ∀ t, t ∈ l → ¬ asks t))
def apM (b b' : xH) (R C : Nat) (l : List (Nat × Nat)) : Prop := b'.2.2.2.1 49 0 R = nI (C + l.length) ∧ (∀ j, j < 400 * R + C → b'.2.2.2.1 48 0 j = b.2.2.2.1 48 0 j) ∧ tkA (b'.2.2.2.1 48 0) (400 * R + C) l
theorem ckA_a {A : Nat → Int32} {p : Nat} {l m : List (Nat × Nat)} (x : ckA A p l) (y : ckA A (p + l.length) m) : ckA A p (l ++ m) := fun i hi => by
  rw [List.length_append] at hi
  by_cases z : i < l.length
  · rw [List.getElem_append_left z]
    exact x i z
  · rw [List.getElem_append_right (Nat.le_of_not_lt z)]
    have := y (i - l.length) (by omega)
    rw [show p + l.length + (i - l.length) = p + i by omega] at this
    exact this
theorem tkA_a {A : Nat → Int32} {p : Nat} {l m : List (Nat × Nat)} (x : tkA A p l) (y : tkA A (p + l.length) m) : tkA A p (l ++ m) := fun i hi => by
  rw [List.length_append] at hi
  by_cases z : i < l.length
  · rw [List.getElem_append_left z]
    exact x i z
  · rw [List.getElem_append_right (Nat.le_of_not_lt z)]
    have := y (i - l.length) (by omega)
    rw [show p + l.length + (i - l.length) = p + i by omega] at this
    exact this
theorem ckA_c {A A' : Nat → Int32} {p : Nat} {l : List (Nat × Nat)} (e : ∀ j, j < p + l.length → A' j = A j) (x : ckA A p l) : ckA A' p l := fun i hi => by
  rw [e (p + i) (by omega)]
  exact x i hi
theorem tkA_c {A A' : Nat → Int32} {p : Nat} {l : List (Nat × Nat)} (e : ∀ j, j < p + l.length → A' j = A j) (x : tkA A p l) : tkA A' p l := fun i hi => by
  rw [e (p + i) (by omega)]
  exact x i hi
theorem apC_t {a b c : xH} {R L : Nat} {l m : List (Nat × Nat)} (x : apC a b R L l) (y : apC b c R (L + l.length) m) : apC a c R L (l ++ m) := by
  obtain ⟨x1, x2, x3, x4⟩ := x
  obtain ⟨y1, y2, y3, y4⟩ := y
  refine ⟨by rw [y1, List.length_append, Nat.add_assoc], fun j hj => (y2 j (by omega)).trans (x2 j hj), ckA_a (ckA_c (fun j hj => y2 j hj) x3) y3, ?_⟩
  rcases y4 with y4 | ⟨y4, y5⟩
  · exact Or.inl y4
  · rcases x4 with x4 | ⟨x4, x5⟩
    · exact Or.inl (y4.trans x4)
    · refine Or.inr ⟨y4.trans x4, fun t ht => ?_⟩
      rcases List.mem_append.mp ht with z | z
      · exact x5 t z
      · exact y5 t z
theorem apM_t {a b c : xH} {R L : Nat} {l m : List (Nat × Nat)} (x : apM a b R L l) (y : apM b c R (L + l.length) m) : apM a c R L (l ++ m) := by
  obtain ⟨x1, x2, x3⟩ := x
  obtain ⟨y1, y2, y3⟩ := y
  exact ⟨by rw [y1, List.length_append, Nat.add_assoc], fun j hj => (y2 j (by omega)).trans (x2 j hj), tkA_a (tkA_c (fun j hj => y2 j (by omega)) x3) (by rw [Nat.add_assoc]; exact y3)⟩
/-- one sign laid by the class -/
theorem c_addE {h : xH} {R : Nat} {v : Int32} : f_Rule_add R v h = (if h.1 2 2 R < 0 then f_Rule_add_b39 R v h else if (400 : Int32) ≤ h.1 2 2 R then f_Rule_add_b39 R v h else if xib (h.1 2 2 R) 400 then f_Rule_add_b39 R v (xsI (xsA h 18 R (upd (h.2.2.2.1 18 R) (h.1 2 2 R).toNatClampNeg v)) 2 2 R (h.1 2 2 R + 1)) else none) := rfl
theorem c_add39 {h : xH} {R : Nat} {v : Int32} : f_Rule_add_b39 R v h = some (if v = 7 ∨ v = 10 ∨ v = 11 then xsI h 2 3 R 1 else h) := by
  have s0 : f_Rule_add_b39 R v h = (if v = 7 then some (xsI h 2 3 R 1) else if v = 10 then some (xsI h 2 3 R 1) else if v = 11 then some (xsI h 2 3 R 1) else some h) := rfl
  rw [s0]
  by_cases a : v = 7
  · rw [if_pos a, if_pos (Or.inl a)]
  by_cases b : v = 10
  · rw [if_neg a, if_pos b, if_pos (Or.inr (Or.inl b))]
  by_cases c : v = 11
  · rw [if_neg a, if_neg b, if_pos c, if_pos (Or.inr (Or.inr c))]
  · rw [if_neg a, if_neg b, if_neg c, if_neg (by rintro (z | z | z) <;> contradiction)]
/-- what an addition leaves -/
def adF (R : Nat) (a a' : xH) : Prop := (∀ c k i, ¬ (c = 2 ∧ i = R) → a'.1 c k i = a.1 c k i) ∧ (∀ f i, ¬ (f = 18 ∧ i = R) → a'.2.2.2.1 f i = a.2.2.2.1 f i) ∧ a'.2.2.1 = a.2.2.1
theorem sfC_a {R : Nat} {a a' : xH} (x : adF R a a') : sfC R a a' := ⟨fun c k i _ q _ => x.1 c k i q, fun f i _ q => x.2.1 f i q, x.2.2⟩
theorem adF_39 {h : xH} {R : Nat} {v : Int32} : adF R h (if v = 7 ∨ v = 10 ∨ v = 11 then xsI h 2 3 R 1 else h) := by
  split
  · exact ⟨fun c k i z => rdI_3 (by omega), fun _ _ _ => rfl, rfl⟩
  · exact ⟨fun _ _ _ _ => rfl, fun _ _ _ => rfl, rfl⟩
theorem adF_t {R : Nat} {a b c : xH} (x : adF R a b) (y : adF R b c) : adF R a c := ⟨fun d k i p => (y.1 d k i p).trans (x.1 d k i p), fun f i p => (y.2.1 f i p).trans (x.2.1 f i p), y.2.2.trans x.2.2⟩
theorem c_addV {h : xH} {R : Nat} (v : Int32) : ∃ a', f_Rule_add R v h = some a' ∧ adF R h a' := by
  rw [c_addE]
  by_cases a : h.1 2 2 R < 0
  · rw [if_pos a, c_add39]
    exact ⟨_, rfl, adF_39⟩
  by_cases b : (400 : Int32) ≤ h.1 2 2 R
  · rw [if_neg a, if_pos b, c_add39]
    exact ⟨_, rfl, adF_39⟩
  rcases pk_ix (h.1 2 2 R) (n := 400) (by omega) with z | z | ⟨j, hj, e⟩
  · exact absurd z a
  · exact absurd z b
  · obtain ⟨g, eg⟩ : ∃ g, g = xsI (xsA h 18 R (upd (h.2.2.2.1 18 R) (h.1 2 2 R).toNatClampNeg v)) 2 2 R (h.1 2 2 R + 1) := ⟨_, rfl⟩
    have gf : adF R h g := ⟨fun c k i z => by rw [eg, rdI_3 (by omega)]; rfl, fun f i z => by rw [eg]; show (xsA h 18 R _).2.2.2.1 f i = _; rw [rdA_n z], by rw [eg]; rfl⟩
    rw [if_neg a, if_neg b, if_pos (by rw [e]; exact xibN hj (by decide)), ← eg, c_add39]
    exact ⟨_, rfl, adF_t gf adF_39⟩
theorem cN_asks {t : Nat × Nat} (hg : tkG t) : (nI (cN t) = 7 ∨ nI (cN t) = 10 ∨ nI (cN t) = 11) ↔ asks t := by
  obtain ⟨h1, h2, h3⟩ := hg
  have lt : cN t < 2 ^ 31 := by unfold cN; repeat' split
                                all_goals omega
  rw [show (7 : Int32) = nI 7 from rfl, show (10 : Int32) = nI 10 from rfl, show (11 : Int32) = nI 11 from rfl, nI_eq lt (by decide), nI_eq lt (by decide), nI_eq lt (by decide)]
  unfold asks cN
  constructor
  · intro z
    by_cases a : t.1 = 0
    · rw [if_pos a] at z; omega
    by_cases b : t.1 = 1
    · rw [if_neg a, if_pos b] at z; exact ⟨b, z⟩
    · rw [if_neg a, if_neg b] at z
      exfalso
      repeat' split at z
      all_goals omega
  · rintro ⟨a, b⟩
    rw [if_neg (by omega), if_pos a]
    exact b
theorem c_add {a : xH} {R L : Nat} {t : Nat × Nat} (hL : a.1 2 2 R = nI L) (h4 : L < 400) (hg : tkG t) : ∃ a', f_Rule_add R (nI (cN t)) a = some a' ∧ adF R a a' ∧ apC a a' R L [t] := by
  obtain ⟨g, eg⟩ : ∃ g, g = xsI (xsA a 18 R (upd (a.2.2.2.1 18 R) L (nI (cN t)))) 2 2 R (nI (L + 1)) := ⟨_, rfl⟩
  have e := c_addE (h := a) (R := R) (v := nI (cN t))
  rw [hL, if_neg (nI_pos (by omega)), if_neg (show ¬ (400 : Int32) ≤ nI L from nI_ge (b := 400) h4 (by decide)), if_pos (xibN h4 (by decide)), nI_clamp (by omega), nI_1, ← eg, c_add39] at e
  have gf : adF R a g := ⟨fun c k i z => by rw [eg, rdI_3 (by omega)]; rfl, fun f i z => by rw [eg]; show (xsA a 18 R _).2.2.2.1 f i = _; rw [rdA_n z], by rw [eg]; rfl⟩
  refine ⟨_, e, adF_t gf adF_39, ?_⟩
  have g18 : g.2.2.2.1 18 R = upd (a.2.2.2.1 18 R) L (nI (cN t)) := by rw [eg]; show (xsA a 18 R _).2.2.2.1 18 R = _; rw [rdA_s]
  have key : ∀ a', a'.2.2.2.1 18 R = g.2.2.2.1 18 R → a'.1 2 2 R = nI (L + 1) → (a'.1 2 3 R = 1 ∨ (a'.1 2 3 R = a.1 2 3 R ∧ ∀ u, u ∈ [t] → ¬ asks u)) → apC a a' R L [t] := fun a' k1 k2 k3 => by
    refine ⟨k2, fun j hj => by rw [k1, g18, pk_un (by omega)], fun i hi => ?_, k3⟩
    have i0 : i = 0 := by
      have : i < 1 := hi
      omega
    subst i0
    rw [k1, g18]
    exact ⟨pk_us, hg⟩
  by_cases z : nI (cN t) = 7 ∨ nI (cN t) = 10 ∨ nI (cN t) = 11
  · rw [if_pos z]
    exact key _ rfl (by rw [rdI (by decide), eg, rdI_s]) (Or.inl rdI_s)
  · rw [if_neg z]
    refine key _ rfl (by rw [eg, rdI_s]) (Or.inr ⟨by rw [eg, rdI (by decide)]; rfl, fun u hu => ?_⟩)
    rw [List.mem_singleton.mp hu]
    exact fun y => z ((cN_asks hg).mpr y)
/-- one sign laid by the reference -/
def puF (R : Nat) (b b' : xH) : Prop := b'.1 = b.1 ∧ (∀ f i, ¬ ((f = 48 ∨ f = 49) ∧ i = 0) → b'.2.2.2.1 f i = b.2.2.2.1 f i) ∧ (∀ j, j ≠ R → b'.2.2.2.1 49 0 j = b.2.2.2.1 49 0 j) ∧ ∀ j, j < 400 * R → b'.2.2.2.1 48 0 j = b.2.2.2.1 48 0 j
theorem sfM_a {R : Nat} {b b' : xH} (x : puF R b b') : sfM R b b' := ⟨fun c k i _ => by rw [x.1], x.2.1, x.2.2.1, x.2.2.2⟩
theorem m_put {b : xH} {R C : Nat} {t : Nat × Nat} (hR : R < 6) (e11 : b.1 12 11 0 = nI R) (hC : b.2.2.2.1 49 0 R = nI C) (h4 : C < 400) (hg : tkG t) : ∃ b', f_M_puts (nI t.1) (nI t.2) b = some b' ∧ puF R b b' ∧ apM b b' R C [t] := by
  obtain ⟨g, eg⟩ : ∃ g, g = xsA b 48 0 (upd (b.2.2.2.1 48 0) (400 * R + C) (tI t)) := ⟨_, rfl⟩
  obtain ⟨g2, eg2⟩ : ∃ g2, g2 = xsA g 49 0 (upd (g.2.2.2.1 49 0) R (nI (C + 1))) := ⟨_, rfl⟩
  have s0 : f_M_puts (nI t.1) (nI t.2) b = (if xib (b.1 12 11 0) 7 then (if xib ((400 : Int32) * (b.1 12 11 0) + (b.2.2.2.1 49 0 (b.1 12 11 0).toNatClampNeg)) 2400 then xlet (xsA b 48 0 (upd (b.2.2.2.1 48 0) ((400 : Int32) * (b.1 12 11 0) + (b.2.2.2.1 49 0 (b.1 12 11 0).toNatClampNeg)).toNatClampNeg (nI t.1 + (16 : Int32) * nI t.2))) (fun h3 => if xib (h3.1 12 11 0) 7 then (if xib (h3.1 12 11 0) 7 then some (xsA h3 49 0 (upd (h3.2.2.2.1 49 0) (h3.1 12 11 0).toNatClampNeg ((h3.2.2.2.1 49 0 (h3.1 12 11 0).toNatClampNeg) + 1))) else none) else none) else none) else none) := rfl
  have x7 : xib (nI R) 7 := xibN (by omega) (by decide)
  have kc : (nI R).toNatClampNeg = R := nI_clamp (by omega)
  have ix : (400 : Int32) * nI R + nI C = nI (400 * R + C) := by
    rw [show (400 : Int32) * nI R = nI (400 * R) from pk_mul 400 R, nI_add]
  have tv : nI t.1 + (16 : Int32) * nI t.2 = tI t := by
    rw [show (16 : Int32) * nI t.2 = nI (16 * t.2) from pk_mul 16 t.2, nI_add]; rfl
  have rC : b.2.2.2.1 49 0 (nI R).toNatClampNeg = nI C := by rw [kc]; exact hC
  rw [e11, if_pos x7, rC, ix, if_pos (xibN (show 400 * R + C < 2400 by omega) (by decide)), nI_clamp (by omega), tv, ← eg] at s0
  have g11 : g.1 12 11 0 = nI R := by rw [eg]; exact e11
  have s1 : f_M_puts (nI t.1) (nI t.2) b = (if xib (g.1 12 11 0) 7 then (if xib (g.1 12 11 0) 7 then some (xsA g 49 0 (upd (g.2.2.2.1 49 0) (g.1 12 11 0).toNatClampNeg ((g.2.2.2.1 49 0 (g.1 12 11 0).toNatClampNeg) + 1))) else none) else none) := s0
  have rC2 : g.2.2.2.1 49 0 R = nI C := by rw [eg, rdA_n (by decide)]; exact hC
  rw [g11, if_pos x7, if_pos x7, kc, rC2, nI_1, ← eg2] at s1
  have a48 : g2.2.2.2.1 48 0 = upd (b.2.2.2.1 48 0) (400 * R + C) (tI t) := by rw [eg2, rdA_n (by decide), eg, rdA_s]
  have a49 : g2.2.2.2.1 49 0 = upd (b.2.2.2.1 49 0) R (nI (C + 1)) := by rw [eg2, rdA_s, eg, rdA_n (by decide)]
  refine ⟨g2, s1, ⟨by rw [eg2, eg]; rfl, fun f i z => by rw [eg2, rdA_n (by omega), eg, rdA_n (by omega)], fun j hj => by rw [a49, pk_un hj], fun j hj => by rw [a48, pk_un (by omega)]⟩, by rw [a49, pk_us]; rfl, fun j hj => by rw [a48, pk_un (by omega)], fun i hi => ?_⟩
  have i0 : i = 0 := by
    have : i < 1 := hi
    omega
  subst i0
  rw [a48]
  exact ⟨pk_us, hg⟩
