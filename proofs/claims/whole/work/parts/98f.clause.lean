/-! PURE: clauses of a trug, both sides in step -/
theorem flt_n {f : Int32} {p w : Nat} (h : ¬ f = 0) : flt f p w = f := if_neg h
theorem flt_0 {p w : Nat} : flt 0 p w = nI (1 + 8 * p + w) := if_pos rfl
theorem flt_ne {p w : Nat} (hp : p ≤ 400) (hw : w ≤ 7) : ¬ nI (1 + 8 * p + w) = 0 := nI_ne0 (by omega) (by omega)
/-- the tape of the class is at p, that of the reference too -/
def sy (a b : xH) (t : Nat) (B : Nat → Nat) (p : Nat) : Prop := tR a t B p ∧ ∃ q, mat b t B q ∧ rn isSB B t q = p
/-- both failed, and alike -/
def fk (a b : xH) (t : Nat) (B : Nat → Nat) : Prop := (∃ p, tR a t B p) ∧ a.1 7 9 0 = b.1 12 9 0 ∧ ¬ a.1 7 9 0 = 0
theorem lk_num {a b : xH} {t p : Nat} {B : Nat → Nat} (hs : sy a b t B p) (fa : a.1 7 9 0 = 0) (fb : b.1 12 9 0 = 0) (lo hi : Int32) (h0 : ¬ lo < 0) : ∃ r a' b', f_TrugReader_readNumber lo hi a = some (r, a') ∧ f_M_numberHere lo hi b = some (ind (numG B t p lo hi), b') ∧ tpF a a' ∧ mnF b b' ∧ (numG B t p lo hi → r = nI (nvB B t p) ∧ b'.1 12 10 0 = nI (nvB B t p) ∧ sy a' b' t B (nxB B t p) ∧ a'.1 7 9 0 = 0 ∧ b'.1 12 9 0 = 0) ∧ (¬ numG B t p lo hi → fk a' b' t B) := by
  obtain ⟨ht, q, hm, hq⟩ := hs
  have pt := tR_le ht
  have t4 := hm.1.2.1
  obtain ⟨r, a', ea, g1, g2, f1⟩ := c_readNumber ht lo hi h0
  obtain ⟨b', eb, m1, m2, m3, f2⟩ := m_numberHere hm hq.symm lo hi
  refine ⟨r, a', b', ea, eb, f1, f2, fun y => ?_, fun y => ?_⟩
  · obtain ⟨x1, x2, x3⟩ := g1 y
    obtain ⟨y1, y2⟩ := m2 y
    rw [if_pos y.1] at m1
    exact ⟨x1, y1, ⟨x3, _, m1, nx_num y.1⟩, x2.trans fa, y2.trans fb⟩
  · obtain ⟨x1, x2, x3⟩ := g2 y
    have y2 := m3 y
    rw [fa, flt_0] at x2
    rw [fb, flt_0] at y2
    refine ⟨⟨p, x3⟩, x2.trans y2.symm, ?_⟩
    rw [x2]
    exact flt_ne (by omega) (by unfold whyN; split <;> omega)
/-- a number that the class reads in vain -/
theorem c_vain {a : xH} {t p : Nat} {B : Nat → Nat} (ht : tR a t B p) (fa : ¬ a.1 7 9 0 = 0) (lo hi : Int32) (h0 : ¬ lo < 0) : ∃ r a', f_TrugReader_readNumber lo hi a = some (r, a') ∧ tpF a a' ∧ (∃ p', tR a' t B p') ∧ a'.1 7 9 0 = a.1 7 9 0 := by
  obtain ⟨r, a', ea, g1, g2, f1⟩ := c_readNumber ht lo hi h0
  refine ⟨r, a', ea, f1, ?_, ?_⟩
  · by_cases y : numG B t p lo hi
    · exact ⟨_, (g1 y).2.2⟩
    · exact ⟨_, (g2 y).2.2⟩
  · by_cases y : numG B t p lo hi
    · exact (g1 y).2.1
    · rw [(g2 y).2.1, flt_n fa]
theorem c_well {h : xH} : f_Tape_isWell h = some (if h.1 7 9 0 = 0 then 1 else 0) := by
  show (if h.1 7 9 0 = 0 then some 1 else some 0) = _
  by_cases z : h.1 7 9 0 = 0
  · rw [if_pos z, if_pos z]
  · rw [if_neg z, if_neg z]
/-- what reading a trug may change: of the class, of the reference -/
def rcF (a a' : xH) : Prop := (∀ c k i, ¬ (c = 7 ∧ ¬ k = 6) → ¬ (c = 8 ∧ i = 5) → ¬ c = 9 → a'.1 c k i = a.1 c k i) ∧ ∀ f i, ¬ (i = 0 ∧ 34 ≤ f ∧ f ≤ 36) → ¬ (i = 5 ∧ 37 ≤ f ∧ f ≤ 41) → a'.2.2.2.1 f i = a.2.2.2.1 f i
def rmF (b b' : xH) : Prop := (∀ c k i, ¬ (c = 12 ∧ ((8 ≤ k ∧ k ≤ 10) ∨ k = 14)) → b'.1 c k i = b.1 c k i) ∧ ∀ f i, ¬ (f = 52 ∧ i = 0) → b'.2.2.2.1 f i = b.2.2.2.1 f i
theorem rcF_t {a b c : xH} (x : rcF a b) (y : rcF b c) : rcF a c := ⟨fun d k i p q r => (y.1 d k i p q r).trans (x.1 d k i p q r), fun f i p q => (y.2 f i p q).trans (x.2 f i p q)⟩
theorem rmF_t {a b c : xH} (x : rmF a b) (y : rmF b c) : rmF a c := ⟨fun d k i p => (y.1 d k i p).trans (x.1 d k i p), fun f i p => (y.2 f i p).trans (x.2 f i p)⟩
theorem rcF_p {a a' : xH} (x : tpF a a') : rcF a a' := ⟨fun c k i p _ _ => x.1 c k i p, fun f i p _ => x.2 f i p⟩
theorem rmF_p {b b' : xH} (x : mnF b b') : rmF b b' := ⟨fun c k i p => x.1 c k i (by omega), fun f i _ => by rw [x.2]⟩
def rd (b : xH) (k : Nat) : Int32 := b.2.2.2.1 52 0 k
/-- what has been read of a trug -/
def dD (a b : xH) (n m : Nat) : Prop :=
  a.1 8 0 5 = 1 ∧ a.1 8 3 5 = nI n ∧ rd b 3 = nI n ∧ n ≤ 8 ∧ a.1 8 4 5 = nI m ∧ rd b 4 = nI m ∧ m ≤ 4 ∧ a.1 8 1 5 = rd b 1 ∧ a.1 8 2 5 = rd b 2 ∧ (∃ z, z ≤ 300 ∧ rd b 1 = nI z) ∧ (∃ z, z ≤ 20 ∧ rd b 2 = nI z) ∧
  (∀ k, k < n → a.2.2.2.1 37 5 k = rd b (64 + k) ∧ a.2.2.2.1 38 5 k = rd b (44 + k) ∧ a.2.2.2.1 39 5 k = rd b (52 + k) ∧ (∃ z, 1 ≤ z ∧ z ≤ 20 ∧ rd b (64 + k) = nI z) ∧ (∃ z, 1 ≤ z ∧ z ≤ 40 ∧ rd b (44 + k) = nI z) ∧ ∃ z, z ≤ 30 ∧ rd b (52 + k) = nI z) ∧
  (∀ k, k < 8 → a.2.2.2.1 40 5 k = rd b (72 + k) ∧ ∃ z, z < 2 ^ n ∧ rd b (72 + k) = nI z) ∧
  (∀ k, k < m → a.2.2.2.1 41 5 k = rd b (60 + k) ∧ ∃ z, 1 ≤ z ∧ z ≤ 60 ∧ rd b (60 + k) = nI z) ∧ ∀ k, m ≤ k → k < 4 → a.2.2.2.1 41 5 k = 0
theorem dD_of {a a' b b' : xH} {n m : Nat} (e1 : ∀ k, k < 5 → a'.1 8 k 5 = a.1 8 k 5) (e3 : ∀ f, 37 ≤ f → f ≤ 41 → a'.2.2.2.1 f 5 = a.2.2.2.1 f 5) (e5 : ∀ k, 1 ≤ k → b'.2.2.2.1 52 0 k = b.2.2.2.1 52 0 k) (h : dD a b n m) : dD a' b' n m := by
  have e5 : ∀ k, 1 ≤ k → rd b' k = rd b k := e5
  obtain ⟨h1, h2, h3, h4, h5, h6, h7, h8, h9, h10, h11, h12, h13, h14, h15⟩ := h
  refine ⟨by rw [e1 0 (by decide)]; exact h1, by rw [e1 3 (by decide)]; exact h2, by rw [e5 3 (by decide)]; exact h3, h4, by rw [e1 4 (by decide)]; exact h5, by rw [e5 4 (by decide)]; exact h6, h7, by rw [e1 1 (by decide), e5 1 (by decide)]; exact h8, by rw [e1 2 (by decide), e5 2 (by decide)]; exact h9, by rw [e5 1 (by decide)]; exact h10, by rw [e5 2 (by decide)]; exact h11, fun k hk => ?_, fun k hk => ?_, fun k hk => ?_, fun k h h' => by rw [e3 41 (by decide) (by decide)]; exact h15 k h h'⟩
  · rw [e3 37 (by decide) (by decide), e3 38 (by decide) (by decide), e3 39 (by decide) (by decide), e5 (64 + k) (by omega), e5 (44 + k) (by omega), e5 (52 + k) (by omega)]
    exact h12 k hk
  · rw [e3 40 (by decide) (by decide), e5 (72 + k) (by omega)]
    exact h13 k hk
  · rw [e3 41 (by decide) (by decide), e5 (60 + k) (by omega)]
    exact h14 k hk
theorem dD_p {a a' b b' : xH} {n m : Nat} (x : tpF a a') (y : mnF b b') (h : dD a b n m) : dD a' b' n m := dD_of (fun k _ => x.1 8 k 5 (by omega)) (fun f h1 h2 => x.2 f 5 (by omega)) (fun k _ => by rw [y.2]) h
/-- a cell of the reference -/
theorem m_cell {b b' : xH} {c : Nat} {v lo hi : Int32} {G : Prop} (e : f_M_numberHere lo hi b = some (ind G, b')) (hc : c < 80) (hv : v = nI c) : f_M_cellHere v lo hi b = (if ind G = 0 then some (0, b') else some (1, xsA b' 52 0 (upd (b'.2.2.2.1 52 0) c (b'.1 12 10 0)))) := by
  have s0 : f_M_cellHere v lo hi b = (f_M_numberHere lo hi b).bind (fun q3 => if q3.1 = 0 then some (0, q3.2) else if xib v 80 then some (1, xsA q3.2 52 0 (upd (q3.2.2.2.2.1 52 0) v.toNatClampNeg (q3.2.1 12 10 0))) else none) := rfl
  rw [s0, e, Option.bind_some, hv, if_pos (xibN hc (by decide)), nI_clamp (by omega)]
theorem sy_A {a b : xH} {t p : Nat} {B : Nat → Nat} {f : Nat} {A : Nat → Int32} (hf : f ≠ 47) (hs : sy a b t B p) : sy a (xsA b f 0 A) t B p := by
  obtain ⟨ht, q, ⟨hm, h8, hq⟩, e⟩ := hs
  exact ⟨ht, q, ⟨mtx_of (h := b) rfl (rdA_n (show ¬ (47 = f ∧ 0 = 0) by omega)) hm, h8, hq⟩, e⟩
theorem tR_of {a a' : xH} {t p : Nat} {B : Nat → Nat} (e1 : ∀ k, a'.1 7 k 0 = a.1 7 k 0) (e2 : ∀ f, 33 ≤ f → f ≤ 36 → a'.2.2.2.1 f 0 = a.2.2.2.1 f 0) (h : tR a t B p) : tR a' t B p := by
  obtain ⟨hc, x, np, a1, a2, a3, a4, a5, a6, a7, a8, a9, a10⟩ := h
  refine ⟨ctx_of (e1 6) (e2 33 (by decide) (by decide)) hc, x, np, by rw [e1]; exact a1, by rw [e1]; exact a2, a3, a4, a5, a6, a7, fun k hk => ?_, by rw [e1]; exact a9, by rw [e1]; exact a10⟩
  rw [e2 34 (by decide) (by decide), e2 35 (by decide) (by decide), e2 36 (by decide) (by decide)]
  exact a8 k hk
theorem fk_of {a a' b b' : xH} {t : Nat} {B : Nat → Nat} (e1 : ∀ k, a'.1 7 k 0 = a.1 7 k 0) (e2 : ∀ f, 33 ≤ f → f ≤ 36 → a'.2.2.2.1 f 0 = a.2.2.2.1 f 0) (e3 : b'.1 12 9 0 = b.1 12 9 0) (h : fk a b t B) : fk a' b' t B := by
  obtain ⟨⟨p, ht⟩, x, y⟩ := h
  exact ⟨⟨p, tR_of e1 e2 ht⟩, by rw [e1, e3]; exact x, by rw [e1]; exact y⟩
/-- the class reads in vain: the fault stays -/
theorem fk_v {a a' b : xH} {t : Nat} {B : Nat → Nat} (h : fk a b t B) (p : ∃ p', tR a' t B p') (e : a'.1 7 9 0 = a.1 7 9 0) : fk a' b t B := ⟨p, e.trans h.2.1, by rw [e]; exact h.2.2⟩
/-- the outcome of a clause -/
def oc (a' b' : xH) (t : Nat) (B : Nat → Nat) (r : Int32) : Prop := (r = 1 ∧ a'.1 7 9 0 = 0 ∧ b'.1 12 9 0 = 0 ∧ ∃ p n m, sy a' b' t B p ∧ dD a' b' n m) ∨ (r = 0 ∧ fk a' b' t B)
/-- fields of the class and cells of the reference set -/
theorem sy_I {a b : xH} {t p : Nat} {B : Nat → Nat} {c k i : Nat} {v : Int32} (hc : c ≠ 7) (hs : sy a b t B p) : sy (xsI a c k i v) b t B p := ⟨tR_of (fun _ => rdI (by omega)) (fun _ _ _ => rfl) hs.1, hs.2⟩
theorem tpF_7 {a a' : xH} (x : tpF a a') (c k i : Nat) (h : ¬ c = 7) : a'.1 c k i = a.1 c k i := x.1 c k i (by omega)
/-- trug: dusk and earth -/
theorem lk_trug {a b : xH} {t p n m : Nat} {B : Nat → Nat} (hs : sy a b t B p) (fa : a.1 7 9 0 = 0) (fb : b.1 12 9 0 = 0) (hd : dD a b n m) : ∃ a' r b', ((f_TrugReader_readNumber 1 300 a).bind (fun q13 => (f_TrugReader_readNumber 0 20 (xsI q13.2 8 1 5 q13.1)).bind (fun q17 => some (xsI q17.2 8 2 5 q17.1)))) = some a' ∧ ((f_M_cellHere 1 1 300 b).bind (fun q7 => if q7.1 = 0 then some (0, q7.2) else (f_M_cellHere 2 0 20 q7.2).bind (fun q11 => if q11.1 = 0 then some (0, q11.2) else some (1, xsA q11.2 52 0 (upd (q11.2.2.2.2.1 52 0) 0 1))))) = some (r, b') ∧ rcF a a' ∧ rmF b b' ∧ a'.1 9 2 0 = a.1 9 2 0 ∧ b'.1 12 14 0 = b.1 12 14 0 ∧ (r = 1 → rd b' 0 = 1) ∧ oc a' b' t B r := by
  obtain ⟨r1, a1, b1, ea1, eb1, f1, g1, y1, n1⟩ := lk_num hs fa fb 1 300 (by decide)
  have c1 := m_cell (c := 1) eb1 (by decide) (show (1 : Int32) = nI 1 from rfl)
  by_cases G1 : numG B t p 1 300
  · obtain ⟨x1, x2, x3, x4, x5⟩ := y1 G1
    obtain ⟨b2, eb2⟩ : ∃ b2, b2 = xsA b1 52 0 (upd (b1.2.2.2.1 52 0) 1 (b1.1 12 10 0)) := ⟨_, rfl⟩
    rw [ind_t G1, if_neg (by decide), ← eb2] at c1
    have s2 : sy (xsI a1 8 1 5 r1) b2 t B (nxB B t p) := by rw [eb2]; exact sy_A (by decide) (sy_I (by decide) x3)
    obtain ⟨r3, a3, b3, ea3, eb3, f3, g3, y3, n3⟩ := lk_num s2 (by rw [rdI (by decide)]; exact x4) (by rw [eb2]; exact x5) 0 20 (by decide)
    have c3 := m_cell (c := 2) eb3 (by decide) (show (2 : Int32) = nI 2 from rfl)
    obtain ⟨a4, ea4⟩ : ∃ a4, a4 = xsI a3 8 2 5 r3 := ⟨_, rfl⟩
    have fca : rcF a a4 := ⟨fun c k i p' q' r' => by rw [ea4, rdI_3 (by omega), f3.1 c k i p', rdI_3 (by omega), f1.1 c k i p'], fun f i p' q' => by rw [ea4]; show a3.2.2.2.1 f i = _; rw [f3.2 f i p']; exact f1.2 f i p'⟩
    have e92 : a4.1 9 2 0 = a.1 9 2 0 := by rw [ea4, rdI (by decide), f3.1 9 2 0 (by decide), rdI (by decide), f1.1 9 2 0 (by decide)]
    have e14 : b3.1 12 14 0 = b.1 12 14 0 := by rw [g3.1 12 14 0 (by omega), eb2]; exact g1.1 12 14 0 (by omega)
    have fmb : rmF b b3 := ⟨fun c k i p' => by rw [g3.1 c k i (by omega), eb2]; exact g1.1 c k i (by omega), fun f i p' => by rw [g3.2, eb2, rdA_n p', g1.2]⟩
    by_cases G3 : numG B t (nxB B t p) 0 20
    · obtain ⟨z1, z2, z3, z4, z5⟩ := y3 G3
      obtain ⟨b4, eb4⟩ : ∃ b4, b4 = xsA b3 52 0 (upd (b3.2.2.2.1 52 0) 2 (b3.1 12 10 0)) := ⟨_, rfl⟩
      obtain ⟨b5, eb5⟩ : ∃ b5, b5 = xsA b4 52 0 (upd (b4.2.2.2.1 52 0) 0 1) := ⟨_, rfl⟩
      rw [ind_t G3, if_neg (by decide), ← eb4] at c3
      have r52 : b5.2.2.2.1 52 0 = upd (upd (upd (b.2.2.2.1 52 0) 1 (nI (nvB B t p))) 2 (nI (nvB B t (nxB B t p)))) 0 1 := by
        rw [eb5, rdA_s, eb4, rdA_s, g3.2, eb2, rdA_s, x2, z2, g1.2]
      refine ⟨a4, 1, b5, by rw [ea1, Option.bind_some, ea3, Option.bind_some, ea4], by rw [c1, Option.bind_some, if_neg (show ¬ (1 : Int32) = 0 by decide), c3, Option.bind_some, if_neg (show ¬ (1 : Int32) = 0 by decide), eb5], fca, rmF_t fmb ⟨fun c k i _ => by rw [eb5, eb4]; rfl, fun f i p' => by rw [eb5, rdA_n p', eb4, rdA_n p']⟩, e92, by rw [eb5, eb4]; exact e14, fun _ => by show b5.2.2.2.1 52 0 0 = 1; rw [r52, pk_us], Or.inl ⟨rfl, by rw [ea4, rdI (by decide)]; exact z4, by rw [eb5, eb4]; exact z5, _, n, m, by rw [ea4, eb5, eb4]; exact sy_A (by decide) (sy_A (by decide) (sy_I (by decide) z3)), ?_⟩⟩
      obtain ⟨h1, h2, h3, h4, h5, h6, h7, h8, h9, h10, h11, h12, h13, h14, h15⟩ := hd
      have i1 : ∀ k, k ≠ 1 → k ≠ 2 → k < 5 → a4.1 8 k 5 = a.1 8 k 5 := fun k k1 k2 _ => by rw [ea4, rdI (by omega), f3.1 8 k 5 (by omega), rdI (by omega), f1.1 8 k 5 (by omega)]
      have aA : ∀ f, 37 ≤ f → f ≤ 41 → a4.2.2.2.1 f 5 = a.2.2.2.1 f 5 := fun f p1 p2 => by rw [ea4]; show a3.2.2.2.1 f 5 = _; rw [f3.2 f 5 (by omega)]; exact f1.2 f 5 (by omega)
      have rr : ∀ k, 3 ≤ k → rd b5 k = rd b k := fun k hk => by show b5.2.2.2.1 52 0 k = _; rw [r52, pk_un (by omega), pk_un (by omega), pk_un (by omega)]; rfl
      have rr1 : rd b5 1 = nI (nvB B t p) := by show b5.2.2.2.1 52 0 1 = _; rw [r52, pk_un (by decide), pk_un (by decide), pk_us]
      have rr2 : rd b5 2 = nI (nvB B t (nxB B t p)) := by show b5.2.2.2.1 52 0 2 = _; rw [r52, pk_un (by decide), pk_us]
      have l1 := nvB_lt G1.2.1
      have l3 := nvB_lt G3.2.1
      have u1 : nvB B t p ≤ 300 := by
        have := fun z => G1.2.2 (Or.inr z)
        exact Nat.le_of_not_lt (fun z => this (nI_lt (a := 300) z (by omega)))
      have u3 : nvB B t (nxB B t p) ≤ 20 := by
        have := fun z => G3.2.2 (Or.inr z)
        exact Nat.le_of_not_lt (fun z => this (nI_lt (a := 20) z (by omega)))
      refine ⟨by rw [i1 0 (by decide) (by decide) (by decide)]; exact h1, by rw [i1 3 (by decide) (by decide) (by decide)]; exact h2, by rw [rr 3 (by decide)]; exact h3, h4, by rw [i1 4 (by decide) (by decide) (by decide)]; exact h5, by rw [rr 4 (by decide)]; exact h6, h7, ?_, ?_, ⟨_, u1, rr1⟩, ⟨_, u3, rr2⟩, fun k hk => ?_, fun k hk => ?_, fun k hk => ?_, fun k p1 p2 => by rw [aA 41 (by decide) (by decide)]; exact h15 k p1 p2⟩
      · rw [rr1, ea4, rdI (by decide), f3.1 8 1 5 (by decide), rdI_s, x1]
      · rw [rr2, ea4, rdI_s, z1]
      · rw [aA 37 (by decide) (by decide), aA 38 (by decide) (by decide), aA 39 (by decide) (by decide), rr (64 + k) (by omega), rr (44 + k) (by omega), rr (52 + k) (by omega)]
        exact h12 k hk
      · rw [aA 40 (by decide) (by decide), rr (72 + k) (by omega)]
        exact h13 k hk
      · rw [aA 41 (by decide) (by decide), rr (60 + k) (by omega)]
        exact h14 k hk
    · have fk3 := n3 G3
      rw [ind_f G3, if_pos rfl] at c3
      refine ⟨a4, 0, b3, by rw [ea1, Option.bind_some, ea3, Option.bind_some, ea4], by rw [c1, Option.bind_some, if_neg (show ¬ (1 : Int32) = 0 by decide), c3, Option.bind_some, if_pos rfl], fca, fmb, e92, e14, fun z => absurd z (by decide), Or.inr ⟨rfl, by rw [ea4]; exact fk_of (fun _ => rdI (by omega)) (fun _ _ _ => rfl) rfl fk3⟩⟩
  · have fk1 := n1 G1
    rw [ind_f G1, if_pos rfl] at c1
    have fk2 : fk (xsI a1 8 1 5 r1) b1 t B := fk_of (fun _ => rdI (by omega)) (fun _ _ _ => rfl) rfl fk1
    obtain ⟨p2, t2⟩ := fk2.1
    obtain ⟨r3, a3, ea3, f3, p3, e3⟩ := c_vain t2 fk2.2.2 0 20 (by decide)
    obtain ⟨a4, ea4⟩ : ∃ a4, a4 = xsI a3 8 2 5 r3 := ⟨_, rfl⟩
    refine ⟨a4, 0, b1, by rw [ea1, Option.bind_some, ea3, Option.bind_some, ea4], by rw [c1, Option.bind_some, if_pos rfl], ⟨fun c k i p' q' r' => by rw [ea4, rdI_3 (by omega), f3.1 c k i p', rdI_3 (by omega), f1.1 c k i p'], fun f i p' q' => by rw [ea4]; show a3.2.2.2.1 f i = _; rw [f3.2 f i p']; exact f1.2 f i p'⟩, rmF_p g1, by rw [ea4, rdI (by decide), f3.1 9 2 0 (by decide), rdI (by decide), f1.1 9 2 0 (by decide)], g1.1 12 14 0 (by omega), fun z => absurd z (by decide), Or.inr ⟨rfl, by rw [ea4]; exact fk_of (fun _ => rdI (by omega)) (fun _ _ _ => rfl) rfl (fk_v fk2 p3 e3)⟩⟩
