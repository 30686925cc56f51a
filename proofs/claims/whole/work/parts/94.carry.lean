/-! PURE: who carries what; the reference's search -/
/-- a o: 0 for none, c + 1 for carrier c -/
def ldk (w a : Nat → Nat) (c k : Nat) : Nat := nsum w (fun o => decide (a o = c)) k
def vN (w a : Nat → Nat) (k : Nat) : Nat := nsum w (fun o => decide (a o ≠ 0)) k
def aP (I m : Nat) (w ST a : Nat → Nat) (k : Nat) : Prop := ∀ i, i < k → a i ≤ m ∧ (a i ≠ 0 → I.testBit i = true ∧ ldk w a (a i) (i + 1) ≤ ST (a i - 1))
theorem ldk_c {w a b : Nat → Nat} {c k : Nat} (e : ∀ i, i < k → b i = a i) : ldk w b c k = ldk w a c k := nsum_congr (fun i hi => ⟨by rw [e i hi], fun _ => rfl⟩)
theorem vN_c {w a b : Nat → Nat} {k : Nat} (e : ∀ i, i < k → b i = a i) : vN w b k = vN w a k := nsum_congr (fun i hi => ⟨by rw [e i hi], fun _ => rfl⟩)
theorem aP_c {I m k : Nat} {w ST a b : Nat → Nat} (e : ∀ i, i < k → b i = a i) (h : aP I m w ST a k) : aP I m w ST b k := by
  intro i hi
  have x := h i hi
  rw [e i hi, ldk_c (a := a) (fun j hj => e j (by omega))]
  exact x
theorem aP_le {I m k l : Nat} {w ST a : Nat → Nat} (h : aP I m w ST a k) (hl : l ≤ k) : aP I m w ST a l := fun i hi => h i (by omega)
theorem ldk_s {w a : Nat → Nat} {c k : Nat} : ldk w a c (k + 1) = ldk w a c k + (if a k = c then w k else 0) := by
  show ldk w a c k + (if decide (a k = c) = true then w k else 0) = _
  by_cases q : a k = c
  · rw [decide_eq_true q, if_pos rfl, if_pos q]
  · rw [decide_eq_false q, if_neg (by decide), if_neg q]
theorem vN_s {w a : Nat → Nat} {k : Nat} : vN w a (k + 1) = vN w a k + (if a k = 0 then 0 else w k) := by
  show vN w a k + (if decide (a k ≠ 0) = true then w k else 0) = _
  by_cases q : a k = 0
  · rw [decide_eq_false (fun z => z q), if_neg (by decide), if_pos q]
  · rw [decide_eq_true q, if_pos rfl, if_neg q]
/-- the reference's row of bearers stands for a -/
def byR (h : xH) (a : Nat → Nat) (k : Nat) : Prop := ∀ i, i < k → h.2.2.2.1 61 0 i = nI (a i) - 1
theorem n1_eq {a b : Nat} (ha : a < 2 ^ 30) (hb : b < 2 ^ 30) : nI a - 1 = nI b - 1 ↔ a = b := by
  constructor
  · intro z
    have := congrArg (· + (1 : Int32)) z
    simp only [Int32.sub_add_cancel] at this
    exact (nI_eq (by omega) (by omega)).mp this
  · intro z; rw [z]
theorem n1_pos {a : Nat} (ha : a < 2 ^ 30) : (0 : Int32) ≤ nI a - 1 ↔ a ≠ 0 := by
  rw [Int32.le_iff_toInt_le, show (1 : Int32) = nI 1 from rfl, pk_sub_toInt (by omega) (by omega)]
  show (0 : Int) ≤ _ ↔ _
  omega
theorem n1_lt {a b : Nat} (ha : a < 2 ^ 30) (hb : b < 2 ^ 30) : nI a - 1 < nI b ↔ a ≤ b := by
  rw [Int32.lt_iff_toInt_lt, show (1 : Int32) = nI 1 from rfl, pk_sub_toInt (by omega) (by omega), nI_toInt (by omega)]
  omega
theorem n1_le {a b : Nat} (ha : a < 2 ^ 30) (hb : b < 2 ^ 30) : nI b ≤ nI a - 1 ↔ b + 1 ≤ a := by
  rw [Int32.le_iff_toInt_le, show (1 : Int32) = nI 1 from rfl, pk_sub_toInt (by omega) (by omega), nI_toInt (by omega)]
  omega
theorem m_canBear {h : xH} {n m k I : Nat} {w ST a : Nat → Nat} (hn : mN h n) (hI : I = bs (mIn h) n) (hk : k < n) (hr : byR h a (k + 1)) (m4 : m ≤ 4) (ha : ∀ i, i < k + 1 → a i ≤ m) (hw : ∀ o, o < n → mS h (28 + o) = nI (w o) ∧ w o ≤ 20) (hs : ∀ c, c < m → mS h (60 + c) = nI (ST c) ∧ ST c ≤ 60) : ∃ b : Bool, f_M_canBear (nI k) h = some (if b then 1 else 0) ∧ (b = true ↔ (a k ≠ 0 → I.testBit k = true ∧ ldk w a (a k) (k + 1) ≤ ST (a k - 1))) := by
  have h8 := hn.2
  have xk : xib (nI k) 9 := xibN (by omega) (by decide)
  have ek : h.2.2.2.1 61 0 (nI k).toNatClampNeg = nI (a k) - 1 := by rw [nI_clamp (by omega)]; exact hr k (by omega)
  have ak := ha k (by omega)
  have s0 : f_M_canBear (nI k) h = (if xib (nI k) 9 then (if (0 : Int32) ≤ h.2.2.2.1 61 0 (nI k).toNatClampNeg then (f_M_isInside_i (nI k) h).bind (fun r3 => if r3 = 0 then some 0 else f_M_canBear_l25 (nI k) 0 0 h) else some 1) else none) := rfl
  rw [if_pos xk, ek, m_isInside_in hn hk, Option.bind_some, sel_e] at s0
  have ik : I.testBit k = mIn h k := by rw [hI, bs_in hk]
  by_cases q0 : a k = 0
  · refine ⟨true, ?_, ⟨fun _ z => absurd q0 z, fun _ => rfl⟩⟩
    rw [s0, if_neg (fun z => (n1_pos (by omega)).mp z q0)]
    rfl
  rw [if_pos ((n1_pos (by omega)).mpr q0)] at s0
  by_cases q1 : mIn h k = true
  · rw [if_pos q1] at s0
    have lb : ∀ j, j ≤ n → ldk w a (a k) j ≤ 160 := fun j hj => by
      have := nsum_le (f := w) (p := fun o => decide (a o = a k)) (M := 20) (n := j) (fun o ho _ => (hw o (by omega)).2)
      exact Nat.le_trans this (by omega)
    have l25 : f_M_canBear_l25 (nI k) 0 0 h = some (if ST (a k - 1) < ldk w a (a k) (k + 1) then 0 else 1) := by
      refine whl_cnt (step := fun s : Int32 × Int32 => f_M_canBear_s25 (nI k) s.1 s.2 h) (k + 1) (fun j => (nI (ldk w a (a k) j), nI j)) _ (fun j hj => ?_) ?_
      · show f_M_canBear_s25 (nI k) (nI (ldk w a (a k) j)) (nI j) h = some (Sum.inl (nI (ldk w a (a k) (j + 1)), nI (j + 1)))
        have s1 : f_M_canBear_s25 (nI k) (nI (ldk w a (a k) j)) (nI j) h = (if nI k < nI j then xup (f_M_canBear_b67 (nI k) (nI (ldk w a (a k) j)) h) else if xib (nI j) 9 then (if xib (nI k) 9 then (if h.2.2.2.1 61 0 (nI j).toNatClampNeg = h.2.2.2.1 61 0 (nI k).toNatClampNeg then (if xib ((28 : Int32) + nI j) 101 then some (Sum.inl (nI (ldk w a (a k) j) + mS h ((28 : Int32) + nI j).toNatClampNeg, nI j + 1)) else none) else some (Sum.inl (nI (ldk w a (a k) j) + 0, nI j + 1))) else none) else none) := rfl
        have ej : h.2.2.2.1 61 0 (nI j).toNatClampNeg = nI (a j) - 1 := by rw [nI_clamp (by omega)]; exact hr j hj
        have aj := ha j hj
        rw [s1, if_neg (nI_nlt (by omega) (by omega)), if_pos (xibN (by omega) (by decide)), if_pos xk, ej, ek, if_pos (xibA (c := 28) (a := 28) rfl (by omega) (by decide)), ixA (c := 28) (a := 28) rfl (by omega), (hw j (by omega)).1, nI_1, ldk_s, nI_add]
        by_cases q : a j = a k
        · rw [if_pos ((n1_eq (by omega) (by omega)).mpr q), if_pos q]
        · rw [if_neg (fun z => q ((n1_eq (by omega) (by omega)).mp z)), if_neg q]
          show some (Sum.inl (nI (ldk w a (a k) j) + nI 0, nI (j + 1))) = _
          rw [nI_add]
      · show f_M_canBear_s25 (nI k) (nI (ldk w a (a k) (k + 1))) (nI (k + 1)) h = _
        have s1 : f_M_canBear_s25 (nI k) (nI (ldk w a (a k) (k + 1))) (nI (k + 1)) h = xup (if xib (nI k) 9 then (if xib ((60 : Int32) + h.2.2.2.1 61 0 (nI k).toNatClampNeg) 101 then (if mS h ((60 : Int32) + h.2.2.2.1 61 0 (nI k).toNatClampNeg).toNatClampNeg < nI (ldk w a (a k) (k + 1)) then some 0 else some 1) else none) else none) := if_pos (nI_lt (by omega) (by omega))
        have e60 : (60 : Int32) + (nI (a k) - 1) = (60 : Int32) + nI (a k - 1) := by
          rw [show a k = (a k - 1) + 1 by omega, nI_pred]
          rfl
        have := lb (k + 1) (by omega)
        have sc := hs (a k - 1) (by omega)
        rw [s1, if_pos xk, ek, e60, if_pos (xibA (c := 60) (a := 60) rfl (by omega) (by decide)), ixA (c := 60) (a := 60) rfl (by omega), sc.1]
        by_cases q : ST (a k - 1) < ldk w a (a k) (k + 1)
        · rw [if_pos (nI_lt q (by omega)), if_pos q]; rfl
        · rw [if_neg (nI_nlt (by omega) (by omega)), if_neg q]; rfl
    rw [l25] at s0
    by_cases q : ST (a k - 1) < ldk w a (a k) (k + 1)
    · refine ⟨false, by rw [s0, if_pos q]; rfl, ⟨fun z => by (cases z), fun z => ?_⟩⟩
      have := (z q0).2
      omega
    · refine ⟨true, by rw [s0, if_neg q]; rfl, ⟨fun _ _ => ⟨by rw [ik]; exact q1, by omega⟩, fun _ => rfl⟩⟩
  · refine ⟨false, by rw [s0, if_neg q1]; rfl, ⟨fun z => by (cases z), fun z => ?_⟩⟩
    have := (z q0).1
    rw [ik] at this
    exact absurd this q1
theorem m_carriedNow {h : xH} {n : Nat} {w a : Nat → Nat} (hn : mN h n) (hr : byR h a n) (ha : ∀ i, i < n → a i ≤ 4) (hw : ∀ o, o < n → mS h (28 + o) = nI (w o) ∧ w o ≤ 20) : f_M_carriedNow h = some (nI (vN w a n)) := by
  have h8 := hn.2
  refine whl_cnt (step := fun s : Int32 × Int32 => f_M_carriedNow_s4 s.1 s.2 h) n (fun j => (nI (vN w a j), nI j)) _ (fun j hj => ?_) ?_
  · show f_M_carriedNow_s4 (nI (vN w a j)) (nI j) h = some (Sum.inl (nI (vN w a (j + 1)), nI (j + 1)))
    have s1 : f_M_carriedNow_s4 (nI (vN w a j)) (nI j) h = (if mS h 3 ≤ nI j then some (Sum.inr (nI (vN w a j))) else if xib (nI j) 9 then (if h.2.2.2.1 61 0 (nI j).toNatClampNeg < 0 then some (Sum.inl (nI (vN w a j) + 0, nI j + 1)) else if xib ((28 : Int32) + nI j) 101 then some (Sum.inl (nI (vN w a j) + mS h ((28 : Int32) + nI j).toNatClampNeg, nI j + 1)) else none) else none) := rfl
    have ej : h.2.2.2.1 61 0 (nI j).toNatClampNeg = nI (a j) - 1 := by rw [nI_clamp (by omega)]; exact hr j hj
    have aj := ha j hj
    rw [s1, hn.1, if_neg (nI_ge hj (by omega)), if_pos (xibN (by omega) (by decide)), ej, if_pos (xibA (c := 28) (a := 28) rfl (by omega) (by decide)), ixA (c := 28) (a := 28) rfl (by omega), (hw j hj).1, nI_1, vN_s, nI_add]
    by_cases q : a j = 0
    · rw [if_pos (Int32.not_le.mp (fun z => (n1_pos (by omega)).mp z q)), if_pos q]
      show some (Sum.inl (nI (vN w a j) + nI 0, nI (j + 1))) = _
      rw [nI_add]
    · rw [if_neg (Int32.not_lt.mpr ((n1_pos (by omega)).mpr q)), if_neg q]
  · show f_M_carriedNow_s4 (nI (vN w a n)) (nI n) h = _
    have s1 : f_M_carriedNow_s4 (nI (vN w a n)) (nI n) h = (if mS h 3 ≤ nI n then some (Sum.inr (nI (vN w a n))) else _) := rfl
    rw [s1, hn.1, if_pos (Int32.le_refl _)]
/-! what a search makes of the most and of who carries -/
def exK (I m n : Nat) (w ST p : Nat → Nat) (k x : Nat) (q : Nat → Nat) : Prop := (∀ i, i < k → q i = p i) ∧ aP I m w ST q n ∧ x ≤ q k
def fsK (I m n : Nat) (w ST : Nat → Nat) (k x : Nat) (r : Nat → Nat) (Mo : Nat) : Prop := ∀ i, k ≤ i → i < n → ∀ q, (∀ j, j < i → q j = r j) → q i < r i → (i = k → x ≤ q k) → aP I m w ST q n → vN w q n + 1 ≠ Mo
def spK (I m n : Nat) (w ST p : Nat → Nat) (k x Mo : Nat) (r : Nat → Nat) (Mo' : Nat) (r' : Nat → Nat) : Prop := (∀ q, exK I m n w ST p k x q → vN w q n + 1 ≤ Mo') ∧ ((Mo' = Mo ∧ r' = r) ∨ (Mo < Mo' ∧ exK I m n w ST p k x r' ∧ vN w r' n + 1 = Mo' ∧ fsK I m n w ST k x r' Mo'))
theorem spK_0 {I m n k Mo : Nat} {w ST p r : Nat → Nat} (hk : k < n) : spK I m n w ST p k (m + 1) Mo r Mo r :=
  ⟨fun q h => by have := (h.2.1 k hk).1; have := h.2.2; omega, Or.inl ⟨rfl, rfl⟩⟩
theorem spK_n {I m n k x Mo Mo' : Nat} {w ST p r r' : Nat → Nat} (hx : ∀ q, exK I m n w ST p k x q → q k ≠ x) (h : spK I m n w ST p k (x + 1) Mo r Mo' r') : spK I m n w ST p k x Mo r Mo' r' := by
  have up : ∀ q, exK I m n w ST p k x q → exK I m n w ST p k (x + 1) q := fun q e => ⟨e.1, e.2.1, by have := hx q e; have := e.2.2; omega⟩
  refine ⟨fun q e => h.1 q (up q e), h.2.imp id (fun ⟨a, b, c, f⟩ => ⟨a, ⟨b.1, b.2.1, by have := b.2.2; omega⟩, c, fun i h1 h2 q h3 h4 h5 h6 => f i h1 h2 q h3 h4 (fun z => ?_) h6⟩)⟩
  subst z
  have y := h5 rfl
  have := hx q ⟨fun j hj => by rw [h3 j hj]; exact b.1 j hj, h6, y⟩
  omega
theorem spK_v {I m n k x Mo M2 M3 : Nat} {w ST p p1 r r2 r3 : Nat → Nat} (hk : k < n) (e1 : ∀ i, i < k → p1 i = p i) (ex : p1 k = x) (h2 : spK I m n w ST p1 (k + 1) 0 Mo r M2 r2) (h3 : spK I m n w ST p k (x + 1) M2 r2 M3 r3) : spK I m n w ST p k x Mo r M3 r3 := by
  have w2 : Mo ≤ M2 := by
    rcases h2.2 with ⟨a, -⟩ | ⟨a, -⟩ <;> omega
  have w3 : M2 ≤ M3 := by
    rcases h3.2 with ⟨a, -⟩ | ⟨a, -⟩ <;> omega
  have up : ∀ q, exK I m n w ST p k x q → q k = x → vN w q n + 1 ≤ M2 := by
    intro q e qx
    refine h2.1 q ⟨fun i hi => ?_, e.2.1, Nat.zero_le _⟩
    by_cases z : i = k
    · rw [z, qx, ex]
    · rw [e.1 i (by omega), e1 i (by omega)]
  refine ⟨fun q e => ?_, ?_⟩
  · by_cases z : q k = x
    · exact Nat.le_trans (up q e z) w3
    · exact h3.1 q ⟨e.1, e.2.1, by have := e.2.2; omega⟩
  · rcases h3.2 with ⟨a3, b3⟩ | ⟨a3, b3, c3, f3⟩
    · rcases h2.2 with ⟨a2, b2⟩ | ⟨a2, b2, c2, f2⟩
      · exact Or.inl ⟨by omega, by rw [b3, b2]⟩
      · right
        subst a3
        subst b3
        have rk : r3 k = x := by rw [b2.1 k (by omega), ex]
        refine ⟨a2, ⟨fun i hi => by rw [b2.1 i (by omega), e1 i hi], b2.2.1, by rw [rk]; exact Nat.le_refl _⟩, c2, fun i i1 i2 q h4 h5 h6 h7 => ?_⟩
        by_cases z : i = k
        · subst z
          have := h6 rfl
          omega
        · exact f2 i (by omega) i2 q h4 h5 (fun _ => Nat.zero_le _) h7
    · right
      refine ⟨by omega, ⟨b3.1, b3.2.1, by have := b3.2.2; omega⟩, c3, fun i i1 i2 q h4 h5 h6 h7 => ?_⟩
      by_cases z : i = k
      · subst z
        by_cases y : q i = x
        · have := up q ⟨fun j hj => by rw [h4 j hj]; exact b3.1 j hj, h7, by omega⟩ y
          omega
        · exact f3 i i1 i2 q h4 h5 (fun _ => by have := h6 rfl; omega) h7
      · exact f3 i i1 i2 q h4 h5 (fun y => absurd y z) h7
/-- the reference in its search -/
def caM (h0 g : xH) : Prop := g.1 = h0.1 ∧ ∀ f i, ¬ (i = 0 ∧ (f = 61 ∨ f = 62)) → g.2.2.2.1 f i = h0.2.2.2.1 f i
def bbR (g : xH) (n Mo : Nat) (r : Nat → Nat) : Prop := Mo ≠ 0 → ∀ i, i < n → g.2.2.2.1 62 0 i = nI (r i) - 1
/-- all bearers are told -/
theorem m_leaf {h0 g : xH} {n Mo : Nat} {w a r : Nat → Nat} (hn : mN h0 n) (hc : caM h0 g) (hr : byR g a n) (ha : ∀ i, i < n → a i ≤ 4) (hw : ∀ o, o < n → mS h0 (28 + o) = nI (w o) ∧ w o ≤ 20) (hb : bbR g n Mo r) (hM : Mo < 2 ^ 20) : ∃ g' Mo' r', f_M_findsCarry_s12 (nI Mo - 1) (nI n) g = some (Sum.inl (nI Mo' - 1, nI n - 1, g')) ∧ caM h0 g' ∧ byR g' a n ∧ bbR g' n Mo' r' ∧ Mo' < 2 ^ 20 ∧ ((vN w a n + 1 ≤ Mo ∧ Mo' = Mo ∧ r' = r) ∨ (Mo < vN w a n + 1 ∧ Mo' = vN w a n + 1 ∧ r' = a)) := by
  have h8 := hn.2
  have eS : mS g = mS h0 := hc.2 56 0 (by omega)
  have hng : mN g n := ⟨by rw [eS]; exact hn.1, h8⟩
  have vb : vN w a n ≤ 160 := Nat.le_trans (nsum_le (M := 20) (fun o ho _ => (hw o ho).2)) (by omega)
  have s0 : f_M_findsCarry_s12 (nI Mo - 1) (nI n) g = (if nI n < 0 then some (Sum.inr (nI Mo - 1, g)) else if nI n = mS g 3 then (f_M_carriedNow g).bind (fun r4 => f_M_findsCarry_l34 (nI Mo - 1) (nI n) r4 0 g) else _) := rfl
  rw [if_neg (nI_pos (by omega)), hng.1, if_pos rfl, m_carriedNow hng hr ha (by rw [eS]; exact hw), Option.bind_some] at s0
  have nn : nI n + (-1) = nI n - 1 := (Int32.sub_eq_add_neg _ _).symm
  by_cases q : vN w a n + 1 ≤ Mo
  · refine ⟨g, Mo, r, ?_, hc, hr, hb, hM, Or.inl ⟨q, rfl, rfl⟩⟩
    rw [s0]
    apply whl_en
    show f_M_findsCarry_s34 (nI Mo - 1) (nI n) (nI (vN w a n)) 0 g = _
    have b70 : f_M_findsCarry_b70 (nI Mo - 1) (nI n) (nI (vN w a n)) g = some (Sum.inl (nI Mo - 1, nI n - 1, g)) := by
      unfold f_M_findsCarry_b70 f_M_findsCarry_b80
      rw [if_pos ((n1_le (by omega) (by omega)).mpr q), xlet_e, nn]
    unfold f_M_findsCarry_s34
    rw [b70, if_pos ((n1_le (by omega) (by omega)).mpr q)]
    split
    · rfl
    · rfl
  · have nle : ¬ nI (vN w a n) ≤ nI Mo - 1 := fun z => q ((n1_le (by omega) (by omega)).mp z)
    obtain ⟨g2, eg2⟩ : ∃ g2, g2 = xsA g 62 0 (cpA (g.2.2.2.1 62 0) (g.2.2.2.1 61 0) n) := ⟨_, rfl⟩
    have e61 : g2.2.2.2.1 61 0 = g.2.2.2.1 61 0 := by rw [eg2, rdA_n (by decide)]
    refine ⟨g2, vN w a n + 1, a, ?_, ⟨by rw [eg2]; exact hc.1, fun f i z => by rw [eg2, rdA_n (by omega)]; exact hc.2 f i z⟩, fun i hi => by rw [e61]; exact hr i hi, fun _ i hi => ?_, by omega, Or.inr ⟨by omega, rfl, rfl⟩⟩
    · rw [s0]
      have := whl_cnt (step := fun s : Int32 × xH => f_M_findsCarry_s34 (nI Mo - 1) (nI n) (nI (vN w a n)) s.1 s.2) n (fun j => (nI j, xsA g 62 0 (cpA (g.2.2.2.1 62 0) (g.2.2.2.1 61 0) j))) (Sum.inl (nI (vN w a n), nI n - 1, g2)) (fun j hj => ?_) ?_
      · rw [show cpA (g.2.2.2.1 62 0) (g.2.2.2.1 61 0) 0 = g.2.2.2.1 62 0 from rfl, xsA_id] at this
        rw [nI_pred]
        exact this
      · show f_M_findsCarry_s34 (nI Mo - 1) (nI n) (nI (vN w a n)) (nI j) (xsA g 62 0 (cpA (g.2.2.2.1 62 0) (g.2.2.2.1 61 0) j)) = _
        have m3 : (xsA g 62 0 (cpA (g.2.2.2.1 62 0) (g.2.2.2.1 61 0) j)).2.2.2.1 56 0 ((3 : Int32)).toNatClampNeg = nI n := by rw [rdA_n (by decide)]; exact hng.1
        unfold f_M_findsCarry_s34
        rw [m3, if_neg (nI_ge hj (by omega)), if_neg nle, if_pos (xibN (by omega) (by decide)), if_pos (xibN (by omega) (by decide)), nI_clamp (by omega), rdA_s, rdA_n (by decide), xsA_2, cpA_s, xlet_e, xlet_e, nI_1]
      · show f_M_findsCarry_s34 (nI Mo - 1) (nI n) (nI (vN w a n)) (nI n) (xsA g 62 0 (cpA (g.2.2.2.1 62 0) (g.2.2.2.1 61 0) n)) = _
        have m3 : (xsA g 62 0 (cpA (g.2.2.2.1 62 0) (g.2.2.2.1 61 0) n)).2.2.2.1 56 0 ((3 : Int32)).toNatClampNeg = nI n := by rw [rdA_n (by decide)]; exact hng.1
        unfold f_M_findsCarry_s34 f_M_findsCarry_b70 f_M_findsCarry_b80
        rw [m3, if_pos (Int32.le_refl _), if_neg nle, xlet_e, nn, ← eg2]
        rfl
    · rw [eg2, rdA_s]
      show (if i < n then g.2.2.2.1 61 0 i else _) = _
      rw [if_pos hi]
      exact hr i hi
theorem m_carry12 {h0 : xH} {n m I : Nat} {w ST : Nat → Nat} (hn : mN h0 n) (e4 : mS h0 4 = nI m) (m4 : m ≤ 4) (hI : I = bs (mIn h0) n) (hw : ∀ o, o < n → mS h0 (28 + o) = nI (w o) ∧ w o ≤ 20) (hs : ∀ c, c < m → mS h0 (60 + c) = nI (ST c) ∧ ST c ≤ 60) : ∀ f k, k + f = n → ∀ (p : Nat → Nat) (g : xH) (Mo : Nat) (r : Nat → Nat), caM h0 g → aP I m w ST p k → byR g p k → g.2.2.2.1 61 0 k = -2 → bbR g n Mo r → Mo < 2 ^ 20 → ∃ (g' : xH) (Mo' : Nat) (r' : Nat → Nat), f_M_findsCarry_l12 (nI Mo - 1) (nI k) g = f_M_findsCarry_l12 (nI Mo' - 1) (nI k - 1) g' ∧ caM h0 g' ∧ byR g' p k ∧ bbR g' n Mo' r' ∧ Mo' < 2 ^ 20 ∧ spK I m n w ST p k 0 Mo r Mo' r' := by
  have h8 := hn.2
  intro f
  induction f with
  | zero =>
    intro k hk p g Mo r hc hp hr _ hb hM
    have hk : k = n := by omega
    subst hk
    obtain ⟨g', Mo', r', e, c', r1, b', M', cs⟩ := m_leaf hn hc hr (fun i hi => Nat.le_trans (hp i hi).1 m4) hw hb hM
    refine ⟨g', Mo', r', whl_st e, c', r1, b', M', ?_⟩
    have ag : ∀ q, exK I m k w ST p k 0 q → vN w q k = vN w p k := fun q z => vN_c z.1
    rcases cs with ⟨c1, c2, c3⟩ | ⟨c1, c2, c3⟩
    · exact ⟨fun q z => by rw [ag q z]; omega, Or.inl ⟨c2, c3⟩⟩
    · refine ⟨fun q z => by rw [ag q z]; omega, Or.inr ⟨by omega, ⟨fun i _ => by rw [c3], by rw [c3]; exact hp, Nat.zero_le _⟩, by rw [c3, c2], fun i i1 i2 => by omega⟩⟩
  | succ f ihf =>
    intro k hk
    have kn : k < n := by omega
    have inner : ∀ e x, x + e = m + 1 → ∀ (p : Nat → Nat) (g : xH) (Mo : Nat) (r : Nat → Nat), caM h0 g → aP I m w ST p k → byR g p k → g.2.2.2.1 61 0 k = nI x - 2 → bbR g n Mo r → Mo < 2 ^ 20 → ∃ (g' : xH) (Mo' : Nat) (r' : Nat → Nat), f_M_findsCarry_l12 (nI Mo - 1) (nI k) g = f_M_findsCarry_l12 (nI Mo' - 1) (nI k - 1) g' ∧ caM h0 g' ∧ byR g' p k ∧ bbR g' n Mo' r' ∧ Mo' < 2 ^ 20 ∧ spK I m n w ST p k x Mo r Mo' r' := by
      intro e
      induction e with
      | zero =>
        intro x hx p g Mo r hc hp hr h61 hb hM
        have hx : x = m + 1 := by omega
        subst hx
        obtain ⟨g1, eg1⟩ : ∃ g1, g1 = xsA g 61 0 (upd (g.2.2.2.1 61 0) k (nI m)) := ⟨_, rfl⟩
        have eS : mS g = mS h0 := hc.2 56 0 (by omega)
        have ek : (nI k).toNatClampNeg = k := nI_clamp (by omega)
        have up1 : nI (m + 1) - 2 + 1 = nI m := by
          rw [Int32.sub_eq_add_neg, Int32.add_assoc, show (-2 : Int32) + 1 = -1 by decide]
          exact pk_m1 m
        have ea : xsA g 61 0 (upd (g.2.2.2.1 61 0) (nI k).toNatClampNeg (g.2.2.2.1 61 0 (nI k).toNatClampNeg + 1)) = g1 := by rw [ek, h61, up1, eg1]
        have c4 : ¬ g1.2.2.2.1 61 0 (nI k).toNatClampNeg < g1.2.2.2.1 56 0 ((4 : Int32)).toNatClampNeg := by
          have m3 : g1.2.2.2.1 56 0 ((4 : Int32)).toNatClampNeg = nI m := by
            rw [eg1, rdA_n (by decide)]
            show mS g 4 = _
            rw [eS]; exact e4
          rw [m3, ek, eg1, rdA_s, pk_us]
          exact nI_nlt (Nat.le_refl _) (by omega)
        refine ⟨g1, Mo, r, ?_, ⟨by rw [eg1]; exact hc.1, fun f' i' z => by rw [eg1, rdA_n (by omega)]; exact hc.2 f' i' z⟩, fun i hi => by rw [eg1, rdA_s, pk_un (by omega)]; exact hr i hi, fun z i hi => by rw [eg1, rdA_n (by omega)]; exact hb z i hi, hM, spK_0 kn⟩
        apply whl_st
        show f_M_findsCarry_s12 (nI Mo - 1) (nI k) g = _
        have m3 : g.2.2.2.1 56 0 ((3 : Int32)).toNatClampNeg = nI n := by
          show mS g 3 = _
          rw [eS]; exact hn.1
        unfold f_M_findsCarry_s12
        rw [if_neg (nI_pos (by omega)), m3, if_neg (fun z => by have := (nI_eq (by omega) (by omega)).mp z; omega), if_pos (xibN (by omega) (by decide)), if_pos (xibN (by omega) (by decide)), ea, xlet_e, if_pos (xibN (by omega) (by decide)), if_neg c4, xlet_e]
        rw [show nI k + (-1) = nI k - 1 from (Int32.sub_eq_add_neg _ _).symm]
      | succ e ihe =>
        intro x hx p g Mo r hc hp hr h61 hb hM
        have hxm : x ≤ m := by omega
        obtain ⟨p1, hp1⟩ : ∃ p1 : Nat → Nat, p1 = fun i => if i = k then x else p i := ⟨_, rfl⟩
        have p1k : p1 k = x := by rw [hp1]; exact if_pos rfl
        have p1o : ∀ i, i < k → p1 i = p i := fun i hi => by rw [hp1]; exact if_neg (by omega)
        obtain ⟨g1, eg1⟩ : ∃ g1, g1 = xsA g 61 0 (upd (g.2.2.2.1 61 0) k (nI x - 1)) := ⟨_, rfl⟩
        have c1 : caM h0 g1 := ⟨by rw [eg1]; exact hc.1, fun f' i' z => by rw [eg1, rdA_n (by omega)]; exact hc.2 f' i' z⟩
        have eS : mS g = mS h0 := hc.2 56 0 (by omega)
        have eS1 : mS g1 = mS h0 := c1.2 56 0 (by omega)
        have ek : (nI k).toNatClampNeg = k := nI_clamp (by omega)
        have up1 : nI x - 2 + 1 = nI x - 1 := by
          rw [Int32.sub_eq_add_neg, Int32.add_assoc, show (-2 : Int32) + 1 = -1 by decide]
          exact (Int32.sub_eq_add_neg _ _).symm
        have ea : xsA g 61 0 (upd (g.2.2.2.1 61 0) (nI k).toNatClampNeg (g.2.2.2.1 61 0 (nI k).toNatClampNeg + 1)) = g1 := by rw [ek, h61, up1, eg1]
        have r1 : byR g1 p1 (k + 1) := fun i hi => by
          rw [eg1, rdA_s]
          by_cases z : i = k
          · rw [z, pk_us, p1k]
          · rw [pk_un z, p1o i (by omega)]
            exact hr i (by omega)
        have b1 : bbR g1 n Mo r := fun z i hi => by rw [eg1, rdA_n (by omega)]; exact hb z i hi
        have le1 : ∀ i, i < k + 1 → p1 i ≤ m := fun i hi => by
          by_cases z : i = k
          · rw [z, p1k]; exact hxm
          · rw [p1o i (by omega)]; exact (hp i (by omega)).1
        obtain ⟨b, eb, hbb⟩ := m_canBear (h := g1) (n := n) (m := m) (k := k) (I := I) (w := w) (ST := ST) (a := p1) ⟨by rw [eS1]; exact hn.1, h8⟩ (by rw [hI]; exact congrArg (fun z => bs z n) (by unfold mIn; rw [eS1])) kn r1 m4 le1 (by rw [eS1]; exact hw) (by rw [eS1]; exact hs)
        have c4 : g1.2.2.2.1 61 0 (nI k).toNatClampNeg < g1.2.2.2.1 56 0 ((4 : Int32)).toNatClampNeg := by
          have m3 : g1.2.2.2.1 56 0 ((4 : Int32)).toNatClampNeg = nI m := by
            show mS g1 4 = _
            rw [eS1]; exact e4
          rw [m3, ek, r1 k (by omega), p1k]
          exact (n1_lt (by omega) (by omega)).mpr hxm
        have m3 : g.2.2.2.1 56 0 ((3 : Int32)).toNatClampNeg = nI n := by
          show mS g 3 = _
          rw [eS]; exact hn.1
        have run : f_M_findsCarry_s12 (nI Mo - 1) (nI k) g = (if (if b = true then (1 : Int32) else 0) = 0 then some (Sum.inl (nI Mo - 1, nI k, g1)) else if xib (nI (k + 1)) 9 then some (Sum.inl (nI Mo - 1, nI (k + 1), xsA g1 61 0 (upd (g1.2.2.2.1 61 0) (nI (k + 1)).toNatClampNeg (-2)))) else none) := by
          unfold f_M_findsCarry_s12
          rw [if_neg (nI_pos (by omega)), m3, if_neg (fun z => by have := (nI_eq (by omega) (by omega)).mp z; omega), if_pos (xibN (by omega) (by decide)), if_pos (xibN (by omega) (by decide)), ea, xlet_e, if_pos (xibN (by omega) (by decide)), if_pos c4, eb, Option.bind_some, nI_1]
          rfl
        have nx : nI (x + 1) - 2 = nI x - 1 := by
          rw [← nI_1, Int32.sub_eq_add_neg, Int32.add_assoc, show (1 : Int32) + -2 = -1 by decide]
          exact (Int32.sub_eq_add_neg _ _).symm
        have aP1 : b = true → aP I m w ST p1 (k + 1) := fun bt i hi => by
          by_cases z : i = k
          · subst z
            exact ⟨le1 i hi, hbb.mp bt⟩
          · exact aP_c p1o hp i (by omega)
        cases b with
        | false =>
          obtain ⟨g', Mo', r', e', c', r'', b', M', s'⟩ := ihe (x + 1) (by omega) p g1 Mo r c1 hp (fun i hi => by rw [r1 i (by omega), p1o i hi]) (by rw [r1 k (by omega), p1k, nx]) b1 hM
          refine ⟨g', Mo', r', ?_, c', r'', b', M', spK_n (fun q z y => ?_) s'⟩
          · rw [← e']
            apply whl_st
            show f_M_findsCarry_s12 (nI Mo - 1) (nI k) g = _
            rw [run, sel_e, if_neg (by decide)]
          · have ag : ∀ i, i < k + 1 → p1 i = q i := fun i hi => by
              by_cases v : i = k
              · rw [v, p1k, y]
              · rw [p1o i (by omega), z.1 i (by omega)]
            have := hbb.mpr (aP_c ag (aP_le z.2.1 (show k + 1 ≤ n by omega)) k (by omega)).2
            cases this
        | true =>
          obtain ⟨g2, eg2⟩ : ∃ g2, g2 = xsA g1 61 0 (upd (g1.2.2.2.1 61 0) (k + 1) (-2)) := ⟨_, rfl⟩
          have run2 : f_M_findsCarry_s12 (nI Mo - 1) (nI k) g = some (Sum.inl (nI Mo - 1, nI (k + 1), g2)) := by
            rw [run, sel_e, if_pos rfl, if_pos (xibN (by omega) (by decide)), nI_clamp (by omega), ← eg2]
          have c2 : caM h0 g2 := ⟨by rw [eg2]; exact c1.1, fun f' i' z => by rw [eg2, rdA_n (by omega)]; exact c1.2 f' i' z⟩
          obtain ⟨g3, M2, r2, e3, c3, r3, b3, hM2, s2⟩ := ihf (k + 1) (by omega) p1 g2 Mo r c2 (aP1 rfl) (fun i hi => by rw [eg2, rdA_s, pk_un (by omega)]; exact r1 i hi) (by rw [eg2, rdA_s, pk_us]) (fun z i hi => by rw [eg2, rdA_n (by omega)]; exact b1 z i hi) hM
          rw [nI_pred] at e3
          obtain ⟨g4, M3, r4, e4', c4', r5, b4, hM3, s3⟩ := ihe (x + 1) (by omega) p g3 M2 r2 c3 hp (fun i hi => by rw [r3 i (by omega), p1o i hi]) (by rw [r3 k (by omega), p1k, nx]) b3 hM2
          refine ⟨g4, M3, r4, ?_, c4', r5, b4, hM3, spK_v kn p1o p1k s2 s3⟩
          rw [← e4', ← e3]
          exact whl_st run2
    intro p g Mo r hc hp hr h61 hb hM
    exact inner (m + 1) 0 (by omega) p g Mo r hc hp hr (by rw [h61]; decide) hb hM
/-- the most, and the first of those who carry so much -/
def isK (I m n : Nat) (w ST : Nat → Nat) (M : Nat) (r : Nat → Nat) : Prop := (∀ q, aP I m w ST q n → vN w q n ≤ M) ∧ aP I m w ST r n ∧ vN w r n = M ∧ ∀ i, i < n → ∀ q, (∀ j, j < i → q j = r j) → q i < r i → aP I m w ST q n → vN w q n ≠ M
theorem isK_u {I m n M M' : Nat} {w ST r r' : Nat → Nat} (a : isK I m n w ST M r) (b : isK I m n w ST M' r') : M = M' ∧ ∀ i, i < n → r i = r' i := by
  have h1 := a.1 r' b.2.1
  have h2 := b.1 r a.2.1
  rw [b.2.2.1] at h1
  rw [a.2.2.1] at h2
  have hM : M = M' := by omega
  subst hM
  refine ⟨rfl, fun i => ?_⟩
  have key : ∀ k, k ≤ n → ∀ j, j < k → r j = r' j := by
    intro k
    induction k with
    | zero => exact fun _ j hj => absurd hj (by omega)
    | succ k ih =>
      intro hk j hj
      by_cases z : j = k
      · subst z
        have ih' := ih (by omega)
        rcases Nat.lt_trichotomy (r j) (r' j) with q | q | q
        · exact absurd a.2.2.1 (b.2.2.2 j (by omega) r ih' q a.2.1)
        · exact q
        · exact absurd b.2.2.1 (a.2.2.2 j (by omega) r' (fun i hi => (ih' i hi).symm) q b.2.1)
      · exact ih (by omega) j (by omega)
  exact fun hi => key n (Nat.le_refl _) i hi
theorem m_findsCarry {h : xH} {n m I : Nat} {w ST : Nat → Nat} (hn : mN h n) (e4 : mS h 4 = nI m) (m4 : m ≤ 4) (hI : I = bs (mIn h) n) (hw : ∀ o, o < n → mS h (28 + o) = nI (w o) ∧ w o ≤ 20) (hs : ∀ c, c < m → mS h (60 + c) = nI (ST c) ∧ ST c ≤ 60) : ∃ h2 M r, f_M_findsCarry h = some (nI M, h2) ∧ caM h h2 ∧ (∀ i, i < n → h2.2.2.2.1 62 0 i = nI (r i) - 1) ∧ isK I m n w ST M r := by
  obtain ⟨g0, eg0⟩ : ∃ g0, g0 = xsA h 61 0 (upd (h.2.2.2.1 61 0) 0 (-2)) := ⟨_, rfl⟩
  obtain ⟨g1, Mo, r, e1, c1, -, b1, -, s1⟩ := m_carry12 hn e4 m4 hI hw hs n 0 (by omega) (fun _ => 0) g0 0 (fun _ => 0) ⟨by rw [eg0]; rfl, fun f i z => by rw [eg0, rdA_n (by omega)]⟩ (fun i hi => absurd hi (by omega)) (fun i hi => absurd hi (by omega)) (by rw [eg0, rdA_s, pk_us]) (fun z => absurd rfl z) (by decide)
  have ex : ∀ q, aP I m w ST q n → exK I m n w ST (fun _ => 0) 0 0 q := fun q z => ⟨fun i hi => absurd hi (by omega), z, Nat.zero_le _⟩
  have zero : aP I m w ST (fun _ => 0) n := fun i hi => ⟨Nat.zero_le _, fun z => absurd rfl z⟩
  have mp := s1.1 _ (ex _ zero)
  rcases s1.2 with ⟨z, -⟩ | ⟨a, b, c, f⟩
  · omega
  · refine ⟨g1, Mo - 1, r, ?_, c1, b1 (by omega), fun q hq => by have := s1.1 q (ex q hq); omega, b.2.1, by omega, fun i hi q h1 h2 h3 => by have := f i (Nat.zero_le _) hi q h1 h2 (fun _ => Nat.zero_le _) h3; omega⟩
    show f_M_findsCarry_l12 (-1) 0 (xsA h 61 0 (upd (h.2.2.2.1 61 0) 0 (-2))) = _
    rw [← eg0]
    refine Eq.trans e1 ?_
    apply whl_en
    show f_M_findsCarry_s12 (nI Mo - 1) (nI 0 - 1) g1 = _
    unfold f_M_findsCarry_s12
    rw [if_pos (by decide), show Mo = (Mo - 1) + 1 by omega, nI_pred]
    rfl
