/-! PURE: rule: the reference's stack of signs -/
def stK (A : Nat → Int32) : List Nat → Prop
  | [] => True
  | x :: S => A S.length = nI x ∧ stK A S
theorem stK_c {A A' : Nat → Int32} : ∀ {S : List Nat}, (∀ j, j < S.length → A' j = A j) → stK A S → stK A' S
  | [], _, _ => trivial
  | x :: S, e, h => ⟨by rw [e S.length (Nat.lt_succ_self _)]; exact h.1, stK_c (fun j hj => e j (Nat.lt_succ_of_lt hj)) h.2⟩
/-- the stack, and how deep -/
def tz (b : xH) (d : Nat) (S : List Nat) : Prop := b.1 12 16 0 = nI S.length ∧ b.1 12 13 0 = nI d ∧ stK (b.2.2.2.1 53 0) S ∧ (∀ x, x ∈ S → x = 11 ∨ x = 12 ∨ x = 13 ∨ x = 91) ∧ d ≤ 10
theorem tz_of {b b' : xH} {d : Nat} {S : List Nat} (e1 : b'.1 12 16 0 = b.1 12 16 0) (e2 : b'.1 12 13 0 = b.1 12 13 0) (e3 : b'.2.2.2.1 53 0 = b.2.2.2.1 53 0) (h : tz b d S) : tz b' d S := ⟨e1.trans h.1, e2.trans h.2.1, by rw [e3]; exact h.2.2.1, h.2.2.2⟩
theorem tz_f {R : Nat} {b b' : xH} {d : Nat} {S : List Nat} (f : sfM R b b') (h : tz b d S) : tz b' d S := tz_of (f.1 12 16 0 (by omega)) (f.1 12 13 0 (by omega)) (f.2.1 53 0 (by omega)) h
/-- what the reference may change while a test is read -/
def tfM (R : Nat) (b b' : xH) : Prop := (∀ c k i, ¬ (c = 12 ∧ ((8 ≤ k ∧ k ≤ 10) ∨ k = 12 ∨ k = 13 ∨ k = 16)) → b'.1 c k i = b.1 c k i) ∧ (∀ f i, ¬ ((f = 48 ∨ f = 49 ∨ f = 53) ∧ i = 0) → b'.2.2.2.1 f i = b.2.2.2.1 f i) ∧ (∀ j, j ≠ R → b'.2.2.2.1 49 0 j = b.2.2.2.1 49 0 j) ∧ ∀ j, j < 400 * R → b'.2.2.2.1 48 0 j = b.2.2.2.1 48 0 j
theorem tfM_r (R : Nat) (a : xH) : tfM R a a := ⟨fun _ _ _ _ => rfl, fun _ _ _ => rfl, fun _ _ => rfl, fun _ _ => rfl⟩
theorem tfM_t {R : Nat} {a b c : xH} (x : tfM R a b) (y : tfM R b c) : tfM R a c := ⟨fun d k i p => (y.1 d k i p).trans (x.1 d k i p), fun f i p => (y.2.1 f i p).trans (x.2.1 f i p), fun j p => (y.2.2.1 j p).trans (x.2.2.1 j p), fun j p => (y.2.2.2 j p).trans (x.2.2.2 j p)⟩
theorem tfM_s {R : Nat} {a b : xH} (x : sfM R a b) : tfM R a b := ⟨fun d k i p => x.1 d k i (by omega), fun f i p => x.2.1 f i (by omega), x.2.2.1, x.2.2.2⟩
theorem tfM_I {R : Nat} {b : xH} {k : Nat} {v : Int32} (h : (8 ≤ k ∧ k ≤ 10) ∨ k = 12 ∨ k = 13 ∨ k = 16) : tfM R b (xsI b 12 k 0 v) := ⟨fun _ _ _ p => rdI (by omega), fun _ _ _ => rfl, fun _ _ => rfl, fun _ _ => rfl⟩
def str (x : Nat) : Nat := if x = 13 then 1 else if x = 12 then 2 else if x = 11 then 3 else 0
theorem m_str {h : xH} {x : Nat} (hx : x < 1000) : f_M_strength (nI x) h = some (nI (str x)) := by
  have s0 : f_M_strength (nI x) h = (if nI x = 13 then some 1 else if nI x = 12 then some 2 else if nI x = 11 then some 3 else some 0) := rfl
  have e : ∀ c, c < 1000 → (nI x = nI c ↔ x = c) := fun c hc => nI_eq (by omega) (by omega)
  rw [s0]
  unfold str
  by_cases a : x = 13
  · rw [if_pos a, if_pos (show nI x = 13 from (e 13 (by decide)).mpr a)]; rfl
  rw [if_neg a, if_neg (show ¬ nI x = 13 from fun z => a ((e 13 (by decide)).mp z))]
  by_cases b : x = 12
  · rw [if_pos b, if_pos (show nI x = 12 from (e 12 (by decide)).mpr b)]; rfl
  rw [if_neg b, if_neg (show ¬ nI x = 12 from fun z => b ((e 12 (by decide)).mp z))]
  by_cases c : x = 11
  · rw [if_pos c, if_pos (show nI x = 11 from (e 11 (by decide)).mpr c)]; rfl
  rw [if_neg c, if_neg (show ¬ nI x = 11 from fun z => c ((e 11 (by decide)).mp z))]; rfl
theorem m_layE {v : Int32} {h : xH} : f_M_layDown_s0 v h = (if h.1 12 16 0 ≤ 0 then some (Sum.inr h) else if xib (h.1 12 16 0 - 1) 400 then (f_M_strength (h.2.2.2.1 53 0 (h.1 12 16 0 - 1).toNatClampNeg) h).bind (fun r3 => if r3 < v then some (Sum.inr h) else xlet (xsI h 12 16 0 (h.1 12 16 0 - 1)) (fun h6 => if xib (h6.1 12 16 0) 400 then (f_M_puts (h6.2.2.2.1 53 0 (h6.1 12 16 0).toNatClampNeg) 0 h6).bind (fun h10 => if xib (h10.1 12 16 0) 400 then (if h10.2.2.2.1 53 0 (h10.1 12 16 0).toNatClampNeg = 11 then some (Sum.inl (xsI h10 12 13 0 (h10.1 12 13 0 - 1))) else some (Sum.inl h10)) else none) else none)) else none) := rfl
/-- nothing more is laid down -/
theorem m_lay0 {b : xH} {v d : Nat} {S : List Nat} (h : tz b d S) (h4 : S.length ≤ 400) (hv : v ≤ 3) (hs : ∀ x T, S = x :: T → str x < v) : f_M_layDown_l0 (nI v) b = some b := by
  refine whl_en ?_
  show f_M_layDown_s0 (nI v) b = _
  rw [m_layE]
  cases S with
  | nil => rw [if_pos (by rw [h.1]; decide)]
  | cons x T =>
    obtain ⟨h1, h2, ⟨h3, h3'⟩, h5, h6⟩ := h
    have l4 : T.length + 1 ≤ 400 := h4
    have h1 : b.1 12 16 0 = nI (T.length + 1) := h1
    have x9 := h5 x (List.mem_cons_self ..)
    rw [h1, if_neg (nI_nle (by omega) (by omega)), nI_pred, if_pos (xibN (by omega) (by decide)), nI_clamp (by omega), h3, m_str (by omega), Option.bind_some, if_pos (nI_lt (hs x T rfl) (by omega))]
/-- one is laid down -/
theorem m_lay1 {b : xH} {v d x R C : Nat} {S : List Nat} (h : tz b d (x :: S)) (h4 : S.length < 400) (hv : v ≤ str x) (h0 : 1 ≤ v) (hR : R < 6) (e11 : b.1 12 11 0 = nI R) (hC : b.2.2.2.1 49 0 R = nI C) (hC4 : C < 400) (hd : x = 11 → 1 ≤ d) : ∃ b', f_M_layDown_l0 (nI v) b = f_M_layDown_l0 (nI v) b' ∧ tz b' (if x = 11 then d - 1 else d) S ∧ apM b b' R C [(x, 0)] ∧ tfM R b b' ∧ (∀ k, ¬ (k = 13 ∨ k = 16) → b'.1 12 k 0 = b.1 12 k 0) := by
  obtain ⟨h1, h2, ⟨h3, h3'⟩, h5, h6⟩ := h
  have h1 : b.1 12 16 0 = nI (S.length + 1) := h1
  have x9 := h5 x (List.mem_cons_self ..)
  have s9 : str x ≤ 3 := by unfold str; split; omega; split; omega; split <;> omega
  have xg : tkG (x, 0) := by
    refine ⟨?_, show 0 < 100000 by decide, fun z => absurd (show x = 1 from z) (by omega)⟩
    show x ≤ 14
    rcases x9 with z | z | z | z
    · omega
    · omega
    · omega
    · exfalso
      rw [z] at hv
      have : str 91 = 0 := rfl
      omega
  obtain ⟨g, eg⟩ : ∃ g, g = xsI b 12 16 0 (nI S.length) := ⟨_, rfl⟩
  obtain ⟨g2, eg2, pf, pm⟩ := m_put (b := g) (R := R) (C := C) (t := (x, 0)) hR (by rw [eg, rdI (by decide)]; exact e11) (by rw [eg]; exact hC) hC4 xg
  have eg2 : f_M_puts (nI x) 0 g = some g2 := eg2
  have g16 : g.1 12 16 0 = nI S.length := by rw [eg, rdI_s]
  have g53 : g.2.2.2.1 53 0 S.length = nI x := by rw [eg]; exact h3
  have g216 : g2.1 12 16 0 = nI S.length := by rw [pf.1]; exact g16
  have g253 : g2.2.2.2.1 53 0 = b.2.2.2.1 53 0 := by rw [pf.2.1 53 0 (by decide), eg]; rfl
  have kc : (nI S.length).toNatClampNeg = S.length := nI_clamp (by omega)
  have x4 : xib (nI S.length) 400 := xibN h4 (by decide)
  have st : f_M_layDown_s0 (nI v) b = (if x = 11 then some (Sum.inl (xsI g2 12 13 0 (g2.1 12 13 0 - 1))) else some (Sum.inl g2)) := by
    have s1 := m_layE (v := nI v) (h := b)
    have r53 : b.2.2.2.1 53 0 (nI S.length).toNatClampNeg = nI x := by rw [kc]; exact h3
    rw [h1, if_neg (nI_nle (by omega) (by omega)), nI_pred, if_pos x4, r53, m_str (by omega), Option.bind_some, if_neg (nI_nlt hv (by omega)), ← eg] at s1
    have s2 : f_M_layDown_s0 (nI v) b = (if xib (g.1 12 16 0) 400 then (f_M_puts (g.2.2.2.1 53 0 (g.1 12 16 0).toNatClampNeg) 0 g).bind (fun h10 => if xib (h10.1 12 16 0) 400 then (if h10.2.2.2.1 53 0 (h10.1 12 16 0).toNatClampNeg = 11 then some (Sum.inl (xsI h10 12 13 0 (h10.1 12 13 0 - 1))) else some (Sum.inl h10)) else none) else none) := s1
    have r53b : g.2.2.2.1 53 0 (nI S.length).toNatClampNeg = nI x := by rw [kc]; exact g53
    have r53c : g2.2.2.2.1 53 0 (nI S.length).toNatClampNeg = nI x := by rw [kc, g253]; exact h3
    rw [g16, if_pos x4, r53b, eg2, Option.bind_some, g216, if_pos x4, r53c] at s2
    rw [s2]
    by_cases z : x = 11
    · rw [if_pos z, if_pos (show nI x = 11 by rw [z]; rfl)]
    · rw [if_neg z, if_neg (show ¬ nI x = 11 from fun y => z ((nI_eq (b := 11) (by omega) (by decide)).mp y))]
  have fb : tfM R b g2 := tfM_t (by rw [eg]; exact tfM_I (by omega)) (tfM_s (sfM_a pf))
  have am : apM b g2 R C [(x, 0)] := ⟨pm.1, fun j hj => by rw [pm.2.1 j hj, eg]; rfl, pm.2.2⟩
  have g2I : ∀ k, ¬ k = 16 → g2.1 12 k 0 = b.1 12 k 0 := fun k z => by rw [pf.1, eg, rdI (by omega)]
  have sS : stK (g2.2.2.2.1 53 0) S := by rw [g253]; exact h3'
  have mS' : ∀ y, y ∈ S → y = 11 ∨ y = 12 ∨ y = 13 ∨ y = 91 := fun y hy => h5 y (List.mem_cons_of_mem _ hy)
  by_cases z : x = 11
  · rw [if_pos z] at st
    have d1 := hd z
    have ed : g2.1 12 13 0 - 1 = nI (d - 1) := by
      rw [g2I 13 (by decide), h2]
      obtain ⟨e, rfl⟩ : ∃ e, d = e + 1 := ⟨d - 1, by omega⟩
      rw [nI_pred]; rfl
    rw [ed] at st
    refine ⟨_, whl_st st, ⟨by rw [rdI (by decide)]; exact g216, by rw [if_pos z]; exact rdI_s, sS, mS', by rw [if_pos z]; omega⟩, ⟨am.1, am.2.1, am.2.2⟩, tfM_t fb (tfM_I (by omega)), fun k hk => by rw [rdI (by omega)]; exact g2I k (by omega)⟩
  · rw [if_neg z] at st
    exact ⟨g2, whl_st st, ⟨g216, by rw [if_neg z, g2I 13 (by decide)]; exact h2, sS, mS', by rw [if_neg z]; exact h6⟩, am, fb, fun k hk => g2I k (by omega)⟩
