/-! PURE: orders of lifting; the reference's search -/
def oP (I : Nat) (U T : Nat → Nat) (M0 D : Nat) (p : Nat → Nat) (k : Nat) : Prop := ∀ i, i < k → I.testBit (p i) = true ∧ (∀ j, j < i → p j ≠ p i) ∧ (∀ y, (U (p i)).testBit y = true → I.testBit y = true → ∃ j, j < i ∧ p j = y) ∧ M0 + rN T p (i + 1) ≤ D
theorem oP_d {I M0 D k : Nat} {U T p : Nat → Nat} (hI : I < 256) (h : oP I U T M0 D p k) : dR p k := ⟨fun i hi => bit_hi hI (h i hi).1, fun j i hj hi => (h i hi).2.1 j hj⟩
theorem oP_le {I M0 D k m : Nat} {U T p : Nat → Nat} (h : oP I U T M0 D p k) (hm : m ≤ k) : oP I U T M0 D p m := fun i hi => h i (by omega)
theorem oP_c {I M0 D k : Nat} {U T p q : Nat → Nat} (e : ∀ i, i < k → q i = p i) (h : oP I U T M0 D p k) : oP I U T M0 D q k := by
  intro i hi
  obtain ⟨a, b, c, d⟩ := h i hi
  refine ⟨by rw [e i hi]; exact a, fun j hj => by rw [e i hi, e j (by omega)]; exact b j hj, fun y h1 h2 => ?_, ?_⟩
  · rw [e i hi] at h1
    obtain ⟨j, hj, ej⟩ := c y h1 h2
    exact ⟨j, hj, by rw [e j (by omega)]; exact ej⟩
  · rw [rN_congr (q := p) (fun j hj => e j (by omega))]
    exact d
/-- better: deeper, or as deep in less time -/
def bt (d t d' t' : Nat) : Prop := d' < d ∨ (d = d' ∧ t < t')
def exO (I : Nat) (U T : Nat → Nat) (M0 D : Nat) (p : Nat → Nat) (k x : Nat) (q : Nat → Nat) (m : Nat) : Prop := k < m ∧ (∀ i, i < k → q i = p i) ∧ oP I U T M0 D q m ∧ x ≤ q k
/-- none that is met ahead of the row (r, l) is worth d, t -/
def fsO (I : Nat) (U T E : Nat → Nat) (M0 D k x : Nat) (r : Nat → Nat) (l d t : Nat) : Prop := ∀ i, k ≤ i → i < l → (k < i → ¬ (rN E r i = d ∧ rN T r i = t)) ∧ ∀ q m, i < m → (∀ j, j < i → q j = r j) → q i < r i → (i = k → x ≤ q k) → oP I U T M0 D q m → ¬ (rN E q m = d ∧ rN T q m = t)
def spO (I : Nat) (U T E : Nat → Nat) (M0 D : Nat) (p : Nat → Nat) (k x d t l : Nat) (r : Nat → Nat) (d' t' l' : Nat) (r' : Nat → Nat) : Prop :=
  (∀ q m, exO I U T M0 D p k x q m → ¬ bt (rN E q m) (rN T q m) d' t') ∧ ((d' = d ∧ t' = t ∧ l' = l ∧ r' = r) ∨ (bt d' t' d t ∧ exO I U T M0 D p k x r' l' ∧ rN E r' l' = d' ∧ rN T r' l' = t' ∧ fsO I U T E M0 D k x r' l' d' t'))
theorem bt_up {d t d1 t1 d2 t2 : Nat} (h : ¬ bt d t d1 t1) (h2 : (d2 = d1 ∧ t2 = t1) ∨ bt d2 t2 d1 t1) : ¬ bt d t d2 t2 := by
  unfold bt at *
  omega
theorem spO_0 {I n M0 D : Nat} {U T E p : Nat → Nat} {k d t l : Nat} {r : Nat → Nat} (hIn : ∀ o, I.testBit o = true → o < n) : spO I U T E M0 D p k n d t l r d t l r :=
  ⟨fun q m ⟨h1, _, h3, h4⟩ => absurd (hIn _ (h3 k h1).1) (by omega), Or.inl ⟨rfl, rfl, rfl, rfl⟩⟩
theorem spO_n {I M0 D : Nat} {U T E p : Nat → Nat} {k x d t l d' t' l' : Nat} {r r' : Nat → Nat} (hx : ∀ q m, exO I U T M0 D p k x q m → q k ≠ x) (h : spO I U T E M0 D p k (x + 1) d t l r d' t' l' r') : spO I U T E M0 D p k x d t l r d' t' l' r' := by
  have up : ∀ q m, exO I U T M0 D p k x q m → exO I U T M0 D p k (x + 1) q m := fun q m e => ⟨e.1, e.2.1, e.2.2.1, by have := hx q m e; have := e.2.2.2; omega⟩
  refine ⟨fun q m e => h.1 q m (up q m e), h.2.imp id (fun ⟨a, b, c, e, f⟩ => ⟨a, ⟨b.1, b.2.1, b.2.2.1, by have := b.2.2.2; omega⟩, c, e, fun i h1 h2 => ⟨(f i h1 h2).1, fun q m h3 h4 h5 h6 h7 => (f i h1 h2).2 q m h3 h4 h5 (fun z => ?_) h7⟩⟩)⟩
  subst z
  have := h6 rfl
  have := hx q m ⟨h3, fun j hj => by rw [h4 j hj]; exact b.2.1 j hj, h7, this⟩
  omega
theorem spO_v {I M0 D : Nat} {U T E p p1 : Nat → Nat} {k x d t l d1 t1 l1 d2 t2 l2 d3 t3 l3 : Nat} {r r1 r2 r3 : Nat → Nat} (e1 : ∀ i, i < k → p1 i = p i) (ex : p1 k = x) (hc : oP I U T M0 D p1 (k + 1)) (h1 : (¬ bt (rN E p1 (k + 1)) (rN T p1 (k + 1)) d t ∧ d1 = d ∧ t1 = t ∧ l1 = l ∧ r1 = r) ∨ (bt (rN E p1 (k + 1)) (rN T p1 (k + 1)) d t ∧ d1 = rN E p1 (k + 1) ∧ t1 = rN T p1 (k + 1) ∧ l1 = k + 1 ∧ r1 = p1)) (h2 : spO I U T E M0 D p1 (k + 1) 0 d1 t1 l1 r1 d2 t2 l2 r2) (h3 : spO I U T E M0 D p k (x + 1) d2 t2 l2 r2 d3 t3 l3 r3) : spO I U T E M0 D p k x d t l r d3 t3 l3 r3 := by
  have w1 : (d1 = d ∧ t1 = t) ∨ bt d1 t1 d t := by
    rcases h1 with ⟨a, b, c, -⟩ | ⟨a, b, c, -⟩
    · exact Or.inl ⟨b, c⟩
    · rw [b, c]; exact Or.inr a
  have v1 : ¬ bt (rN E p1 (k + 1)) (rN T p1 (k + 1)) d1 t1 := by
    rcases h1 with ⟨a, b, c, -⟩ | ⟨a, b, c, -⟩
    · rw [b, c]; exact a
    · rw [b, c]; unfold bt; omega
  have w2 : (d2 = d1 ∧ t2 = t1) ∨ bt d2 t2 d1 t1 := h2.2.imp (fun z => ⟨z.1, z.2.1⟩) (fun z => z.1)
  have w3 : (d3 = d2 ∧ t3 = t2) ∨ bt d3 t3 d2 t2 := h3.2.imp (fun z => ⟨z.1, z.2.1⟩) (fun z => z.1)
  have up : ∀ q m, exO I U T M0 D p k x q m → q k = x → ¬ bt (rN E q m) (rN T q m) d2 t2 := by
    intro q m e qx
    have ag : ∀ i, i < k + 1 → q i = p1 i := fun i hi => by
      by_cases z : i = k
      · rw [z, qx, ex]
      · rw [e.2.1 i (by omega), e1 i (by omega)]
    by_cases z : m = k + 1
    · rw [z, rN_congr ag, rN_congr ag]
      exact bt_up v1 w2
    · exact h2.1 q m ⟨by have := e.1; omega, ag, e.2.2.1, Nat.zero_le _⟩
  refine ⟨fun q m e => ?_, ?_⟩
  · by_cases z : q k = x
    · exact bt_up (up q m e z) w3
    · exact h3.1 q m ⟨e.1, e.2.1, e.2.2.1, by have := e.2.2.2; omega⟩
  · rcases h3.2 with ⟨a3, b3, c3, g3⟩ | ⟨a3, b3, c3, e3, f3⟩
    · rcases h2.2 with ⟨a2, b2, c2, g2⟩ | ⟨a2, b2, c2, e2, f2⟩
      · rcases h1 with ⟨a, b, c, e, f⟩ | ⟨a, b, c, e, f⟩
        · exact Or.inl ⟨by omega, by omega, by omega, by rw [g3, g2, f]⟩
        · right
          have gg : r3 = p1 := by rw [g3, g2, f]
          have ll : l3 = k + 1 := by omega
          have dd : d3 = rN E p1 (k + 1) := by omega
          have tt : t3 = rN T p1 (k + 1) := by omega
          subst gg
          subst ll
          subst dd
          subst tt
          refine ⟨a, ⟨by omega, e1, hc, by rw [ex]; exact Nat.le_refl _⟩, rfl, rfl, fun i i1 i2 => ⟨fun z => by omega, fun q m h4 h5 h6 h7 h8 => ?_⟩⟩
          have : i = k := by omega
          subst this
          have := h7 rfl
          omega
      · right
        have gg : r3 = r2 := g3
        have ll : l3 = l2 := c3
        have dd : d3 = d2 := a3
        have tt : t3 = t2 := b3
        subst gg
        subst ll
        subst dd
        subst tt
        have rk : r3 k = x := by rw [b2.2.1 k (by omega), ex]
        refine ⟨?_, ⟨by have := b2.1; omega, fun i hi => by rw [b2.2.1 i (by omega), e1 i hi], b2.2.2.1, by rw [rk]; exact Nat.le_refl _⟩, c2, e2, fun i i1 i2 => ?_⟩
        · unfold bt at *
          omega
        · by_cases z : i = k
          · subst z
            refine ⟨fun z => by omega, fun q m h4 h5 h6 h7 h8 => ?_⟩
            have := h7 rfl
            omega
          · refine ⟨fun _ => ?_, fun q m h4 h5 h6 h7 h8 => (f2 i (by omega) i2).2 q m h4 h5 h6 (fun _ => Nat.zero_le _) h8⟩
            by_cases w : i = k + 1
            · subst w
              rw [rN_congr (f := E) b2.2.1, rN_congr (f := T) b2.2.1]
              rintro ⟨y1, y2⟩
              rw [y1, y2] at v1
              exact v1 a2
            · exact (f2 i (by omega) i2).1 (by omega)
    · right
      refine ⟨?_, ⟨b3.1, b3.2.1, b3.2.2.1, by have := b3.2.2.2; omega⟩, c3, e3, fun i i1 i2 => ⟨(f3 i i1 i2).1, fun q m h4 h5 h6 h7 h8 => ?_⟩⟩
      · unfold bt at *
        omega
      · by_cases z : i = k
        · subst z
          by_cases y : q i = x
          · have := up q m ⟨h4, fun j hj => by rw [h5 j hj]; exact b3.2.1 j hj, h8, by omega⟩ y
            rintro ⟨y1, y2⟩
            rw [y1, y2] at this
            exact this a3
          · exact (f3 i i1 i2).2 q m h4 h5 h6 (fun _ => by have := h7 rfl; omega) h8
        · exact (f3 i i1 i2).2 q m h4 h5 h6 (fun w => absurd w z) h8
/-- lifted one behind the other -/
def lwV (V : Nat → Int32) (p : Nat → Nat) : Nat → Nat → Int32
  | 0 => V
  | k + 1 => liV (lwV V p k) (p k)
theorem lwV_o {V : Nat → Int32} {p : Nat → Nat} {t : Nat} (ht : ¬ (10 ≤ t ∧ t < 44)) : ∀ {k : Nat}, (∀ i, i < k → p i < 8) → lwV V p k t = V t
  | 0, _ => rfl
  | k + 1, h => by
    have := h k (by omega)
    show liV (lwV V p k) (p k) t = V t
    rw [liV_o (by omega) (by omega) (by omega)]
    exact lwV_o ht (fun i hi => h i (by omega))
theorem lwV_36 {V : Nat → Int32} {p : Nat → Nat} {y : Nat} (hy : y < 8) : ∀ {k : Nat}, (∀ i, i < k → p i < 8) → lwV V p k (36 + y) = V (36 + y)
  | 0, _ => rfl
  | k + 1, h => by
    have := h k (by omega)
    show liV (lwV V p k) (p k) (36 + y) = _
    rw [liV_o (by omega) (by omega) (by omega)]
    exact lwV_36 hy (fun i hi => h i (by omega))
theorem lwV_in {V : Nat → Int32} {p : Nat → Nat} {y : Nat} (hy : y < 8) : ∀ {k : Nat}, (∀ i, i < k → p i < 8) → (vIn (lwV V p k) y = true ↔ vIn V y = true ∧ (sP p k).testBit y = false)
  | 0, _ => by
    show vIn V y = true ↔ vIn V y = true ∧ (0 : Nat).testBit y = false
    rw [Nat.zero_testBit]
    exact ⟨fun z => ⟨z, rfl⟩, fun z => z.1⟩
  | k + 1, h => by
    have hk := h k (by omega)
    have ih := lwV_in (V := V) (p := p) hy (k := k) (fun i hi => h i (by omega))
    show decide (liV (lwV V p k) (p k) (12 + y) = 0) = true ↔ vIn V y = true ∧ (sP p k ||| 2 ^ (p k)).testBit y = false
    by_cases z : y = p k
    · subst z
      rw [liV_12 hk]
      have b1 : (sP p k ||| 2 ^ (p k)).testBit (p k) = true := or_bit.mpr (Or.inr rfl)
      rw [b1]
      refine ⟨fun w => ?_, fun w => absurd w.2 (by decide)⟩
      have w := of_decide_eq_true w
      split at w
      · exact absurd w (by decide)
      · exact absurd w (by decide)
    · have b1 : (sP p k ||| 2 ^ (p k)).testBit y = (sP p k).testBit y := by
        rw [Nat.testBit_or, Nat.testBit_two_pow, decide_eq_false (fun w => z w.symm), Bool.or_false]
      rw [liV_o (by omega) (by omega) (by omega), b1]
      exact ih
theorem lwV_10 {V : Nat → Int32} {p T : Nat → Nat} {M0 D : Nat} (h10 : V 10 = nI M0) (hD : D ≤ 9999) : ∀ {k : Nat}, (∀ i, i < k → p i < 8 ∧ V (44 + p i) = nI (T (p i)) ∧ T (p i) ≤ 40 ∧ M0 + rN T p (i + 1) ≤ D) → lwV V p k 10 = nI (M0 + rN T p k)
  | 0, _ => h10
  | k + 1, h => by
    have ih := lwV_10 (V := V) (p := p) (T := T) h10 hD (k := k) (fun i hi => h i (by omega))
    obtain ⟨a, b, c, d⟩ := h k (by omega)
    show liV (lwV V p k) (p k) 10 = nI (M0 + (rN T p k + T (p k)))
    have d' : M0 + (rN T p k + T (p k)) ≤ D := d
    rw [liV_10, liT_n ih (by omega) (by rw [lwV_o (by omega) (fun i hi => (h i (by omega)).1)]; exact b) c, Nat.min_eq_right (by omega)]
    exact congrArg nI (by omega)
/-- the reference in its search: what may have changed, what is kept -/
def orM (h0 g : xH) (V : Nat → Int32) : Prop := (∀ c k i, ¬ (c = 12 ∧ 28 ≤ k ∧ k ≤ 30) → g.1 c k i = h0.1 c k i) ∧ (∀ f i, ¬ (i = 0 ∧ (f = 56 ∨ f = 58 ∨ f = 59 ∨ f = 60)) → g.2.2.2.1 f i = h0.2.2.2.1 f i) ∧ (∀ j, j < 34 → g.2.2.2.1 58 0 j = V (10 + j)) ∧ ∀ t, ¬ (10 ≤ t ∧ t < 44) → mS g t = V t
theorem m_areLifted {h0 g : xH} {n k I M0 D : Nat} {V : Nat → Int32} {U T p : Nat → Nat} (hw : wOk V n) (ho : orM h0 g V) (hk : k < 9) (hr : rwR g p (k + 1)) (hp : ∀ i, i < k + 1 → p i < n) (hI : I = bs (vIn V) n) (hU : ∀ k, k < n → V (36 + k) = nI (U k) ∧ U k < 256) (hT : ∀ k, k < n → V (44 + k) = nI (T k) ∧ T k ≤ 40) (h1 : V 1 = nI D) (hD : D ≤ 300) (h10 : V 10 = nI M0) (hM : M0 ≤ 9999) : ∃ (b : Bool) (g2 : xH), f_M_areLifted (nI (k + 1)) g = some (if b then 1 else 0, g2) ∧ (b = true ↔ oP I U T M0 D p (k + 1)) ∧ orM h0 g2 V ∧ g2.1 = g.1 ∧ g2.2.2.2.1 59 0 = g.2.2.2.1 59 0 ∧ g2.2.2.2.1 60 0 = g.2.2.2.1 60 0 := by
  have h8 := hw.2.1
  have p8 : ∀ i, i < k + 1 → p i < 8 := fun i hi => by have := hp i hi; omega
  obtain ⟨g1, eg1⟩ : ∃ g1, g1 = xsA g 56 0 V := ⟨_, rfl⟩
  have lb : f_M_laysBack g = some g1 := by rw [eg1]; exact m_laysBack ho.2.2.1 ho.2.2.2
  have s1 : mS g1 = V := by rw [eg1]; exact rdA_s
  have key := whl_cntE (step := fun s : Int32 × xH => f_M_areLifted_s6 (nI (k + 1)) s.1 s.2) (k + 1) (fun j s => s.1 = nI j ∧ mS s.2 = lwV V p j ∧ s.2.1 = g.1 ∧ (∀ f i, ¬ (f = 56 ∧ i = 0) → s.2.2.2.2.1 f i = g.2.2.2.1 f i) ∧ oP I U T M0 D p j) (fun x => ∃ (b : Bool) (g2 : xH), x = (if b then 1 else 0, g2) ∧ (b = true ↔ oP I U T M0 D p (k + 1)) ∧ (∃ j, j ≤ k + 1 ∧ mS g2 = lwV V p j) ∧ g2.1 = g.1 ∧ (∀ f i, ¬ (f = 56 ∧ i = 0) → g2.2.2.2.1 f i = g.2.2.2.1 f i)) ?_ ?_ (0, g1) ⟨nI_0.symm, s1, by rw [eg1]; rfl, fun f i q => by rw [eg1, rdA_n q], fun i hi => absurd hi (by omega)⟩
  · obtain ⟨x, e, b, g2, rfl, hb, ⟨j, hj, ej⟩, e1, e2⟩ := key
    refine ⟨b, g2, ?_, hb, ⟨fun c' k' i' q => by rw [e1]; exact ho.1 c' k' i' q, fun f' i' q => by rw [e2 f' i' (by omega)]; exact ho.2.1 f' i' q, fun i hi => by rw [e2 58 0 (by omega)]; exact ho.2.2.1 i hi, fun t ht => by rw [ej]; exact lwV_o ht (fun i hi => p8 i (by omega))⟩, e1, e2 59 0 (by omega), e2 60 0 (by omega)⟩
    show (f_M_laysBack g).bind (fun h3 => f_M_areLifted_l6 (nI (k + 1)) 0 h3) = _
    rw [lb, Option.bind_some]
    exact e
  · rintro j hj ⟨q1, a⟩ ⟨e1, es, eI, eA, hoj⟩
    have e1 : q1 = nI j := e1
    subst e1
    have es : mS a = lwV V p j := es
    have eI : a.1 = g.1 := eI
    have eA : ∀ f i, ¬ (f = 56 ∧ i = 0) → a.2.2.2.1 f i = g.2.2.2.1 f i := eA
    have pj := hp j hj
    have pj8 : p j < 8 := by omega
    have pl : ∀ i, i < j → p i < 8 := fun i hi => p8 i (by omega)
    have er : ∀ b : xH, (∀ f i, ¬ (f = 56 ∧ i = 0) → b.2.2.2.1 f i = g.2.2.2.1 f i) → b.2.2.2.1 59 0 (nI j).toNatClampNeg = nI (p j) := fun b eb => by
      rw [nI_clamp (by omega), eb 59 0 (by omega)]
      exact hr j hj
    have xj : xib (nI j) 9 := xibN (by omega) (by decide)
    have hna : mN a n := ⟨by rw [es, lwV_o (by omega) pl]; exact hw.1, h8⟩
    have loose : mLoose a n (p j) = true ↔ I.testBit (p j) = true ∧ (∀ i, i < j → p i ≠ p j) ∧ ∀ y, (U (p j)).testBit y = true → I.testBit y = true → ∃ i, i < j ∧ p i = y := by
      rw [mLoose_v, es]
      unfold vLoose
      rw [lwV_36 pj8 pl, (hU (p j) pj).1, Bool.and_eq_true, decide_eq_true_iff, sb_and0 _ (hU (p j) pj).2 _ (bs_lt8 _ h8), lwV_in pj8 pl]
      constructor
      · rintro ⟨⟨z1, z2⟩, z3⟩
        refine ⟨by rw [hI, bs_in pj]; exact z1, fun i hi w => ?_, fun y y1 y2 => ?_⟩
        · rw [sP_bit.mpr ⟨i, hi, w⟩] at z2
          cases z2
        · rw [hI, bs_bit, Bool.and_eq_true, decide_eq_true_iff] at y2
          cases hb : (sP p j).testBit y with
          | true => exact sP_bit.mp hb
          | false =>
            exfalso
            have : (U (p j) &&& bs (vIn (lwV V p j)) n).testBit y = true := by
              rw [Nat.testBit_and, y1, bs_in y2.1, (lwV_in (show y < 8 by omega) pl).mpr ⟨y2.2, hb⟩]
              rfl
            rw [z3, Nat.zero_testBit] at this
            cases this
      · rintro ⟨z1, z2, z3⟩
        rw [hI, bs_in pj] at z1
        refine ⟨⟨z1, sP_f z2⟩, ?_⟩
        apply Nat.eq_of_testBit_eq
        intro y
        rw [Nat.zero_testBit]
        cases hb : (U (p j) &&& bs (vIn (lwV V p j)) n).testBit y with
        | false => rfl
        | true =>
          rw [Nat.testBit_and, Bool.and_eq_true, bs_bit, Bool.and_eq_true, decide_eq_true_iff] at hb
          obtain ⟨b1, b2, b3⟩ := hb
          have b4 := (lwV_in (show y < 8 by omega) pl).mp b3
          have := z3 y b1 (by rw [hI, bs_in b2]; exact b4.1)
          rw [sP_bit.mpr this] at b4
          exact absurd b4.2 (by decide)
    have s0 : f_M_areLifted_s6 (nI (k + 1)) (nI j) a = (if nI (k + 1) ≤ nI j then some (Sum.inr (1, a)) else if xib (nI j) 9 then (f_M_isLoose (a.2.2.2.1 59 0 (nI j).toNatClampNeg) a).bind (fun r6 => if r6 = 0 then some (Sum.inr (0, a)) else if xib (nI j) 9 then (f_M_lifts (a.2.2.2.1 59 0 (nI j).toNatClampNeg) a).bind (fun h12 => if xib (nI j) 9 then (if xib ((12 : Int32) + h12.2.2.2.1 59 0 (nI j).toNatClampNeg) 101 then (if h12.2.2.2.1 56 0 ((12 : Int32) + h12.2.2.2.1 59 0 (nI j).toNatClampNeg).toNatClampNeg = 2 then some (Sum.inr (0, h12)) else some (Sum.inl (nI j + 1, h12))) else none) else none) else none) else none) := rfl
    rw [if_neg (nI_ge hj (by omega)), if_pos xj, er a eA, m_isLoose_in hna pj, Option.bind_some, sel_e] at s0
    by_cases q : mLoose a n (p j) = true
    · obtain ⟨z1, z2, z3⟩ := loose.mp q
      obtain ⟨a2, ea2⟩ : ∃ a2, a2 = xsA a 56 0 (liV (mS a) (p j)) := ⟨_, rfl⟩
      have eA2 : ∀ f i, ¬ (f = 56 ∧ i = 0) → a2.2.2.2.1 f i = g.2.2.2.1 f i := fun f i w => by rw [ea2, rdA_n w]; exact eA f i w
      have es2 : mS a2 = lwV V p (j + 1) := by
        rw [ea2]
        show (xsA a 56 0 (liV (mS a) (p j))).2.2.2.1 56 0 = _
        rw [rdA_s, es]
        rfl
      have e56 : a2.2.2.2.1 56 0 ((12 : Int32) + nI (p j)).toNatClampNeg = lwV V p (j + 1) (12 + p j) := by
        rw [ixA (c := 12) (a := 12) rfl (by omega)]
        exact congrFun es2 _
      rw [if_pos q, if_pos xj, m_lifts pj8, Option.bind_some, ← ea2, if_pos xj, er a2 eA2, if_pos (xibA (c := 12) (a := 12) rfl (by omega) (by decide)), e56, nI_1] at s0
      have e10 : lwV V p j 10 = nI (M0 + rN T p j) := lwV_10 h10 (by omega) (fun i hi => ⟨pl i hi, (hT _ (hp i (by omega))).1, (hT _ (hp i (by omega))).2, (hoj i hi).2.2.2⟩)
      have rb : M0 + rN T p j ≤ 9999 := by
        by_cases z : j = 0
        · subst z
          exact hM
        · have := (hoj (j - 1) (by omega)).2.2.2
          rw [show j - 1 + 1 = j by omega] at this
          omega
      have st : lwV V p (j + 1) (12 + p j) = 2 ↔ D < M0 + rN T p (j + 1) := by
        show liV (lwV V p j) (p j) (12 + p j) = 2 ↔ D < M0 + (rN T p j + T (p j))
        have tj := (hT (p j) pj).2
        rw [liV_12 pj8, lwV_o (by omega) pl, h1, liT_n e10 rb (by rw [lwV_o (by omega) pl]; exact (hT (p j) pj).1) tj]
        by_cases w : nI D < nI (min 9999 (M0 + rN T p j + T (p j)))
        · rw [if_pos w]
          have := (nI_ltI (by omega) (by omega)).mp w
          exact ⟨fun _ => by omega, fun _ => rfl⟩
        · rw [if_neg w]
          refine ⟨fun y => absurd y (by decide), fun y => absurd (nI_lt (by omega) (by omega)) w⟩
      by_cases w : D < M0 + rN T p (j + 1)
      · right
        refine ⟨(0, a2), by show f_M_areLifted_s6 (nI (k + 1)) (nI j) a = _; rw [s0, if_pos (st.mpr w)], false, a2, rfl, ⟨fun y => by (cases y), fun y => ?_⟩, ⟨j + 1, by omega, es2⟩, by rw [ea2]; exact eI, eA2⟩
        have := (y j hj).2.2.2
        omega
      · left
        refine ⟨(nI (j + 1), a2), by show f_M_areLifted_s6 (nI (k + 1)) (nI j) a = _; rw [s0, if_neg (fun y => w (st.mp y))], rfl, es2, by show a2.1 = g.1; rw [ea2]; exact eI, eA2, fun i hi => ?_⟩
        by_cases y : i = j
        · subst y
          exact ⟨z1, z2, z3, by omega⟩
        · exact hoj i (by omega)
    · right
      refine ⟨(0, a), by show f_M_areLifted_s6 (nI (k + 1)) (nI j) a = _; rw [s0, if_neg q], false, a, rfl, ⟨fun y => by (cases y), fun y => ?_⟩, ⟨j, by omega, es⟩, eI, eA⟩
      obtain ⟨y1, y2, y3, -⟩ := y j hj
      exact absurd (loose.mpr ⟨y1, y2, y3⟩) q
  · rintro ⟨q1, a⟩ ⟨e1, es, eI, eA, hoj⟩
    have e1 : q1 = nI (k + 1) := e1
    subst e1
    refine ⟨(1, a), ?_, true, a, rfl, ⟨fun _ => hoj, fun _ => rfl⟩, ⟨k + 1, Nat.le_refl _, es⟩, eI, eA⟩
    show f_M_areLifted_s6 (nI (k + 1)) (nI (k + 1)) a = _
    unfold f_M_areLifted_s6
    rw [if_pos (Int32.le_refl _)]
