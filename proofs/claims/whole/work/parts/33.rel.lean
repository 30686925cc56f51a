/-! PURE: THE INVARIANT. A vector V of 101 ints is what the reference says of a trug; a State, a Told, a Scene of the class stand for such a vector -/
/-- the ranges of what is said: n sorrows, m carriers, c notes -/
def vOk (V : Nat → Int32) (n m c : Nat) : Prop :=
  (V 0 = 0 ∨ V 0 = 1) ∧ (V 0 = 0 → n = 0 ∧ m = 0 ∧ c = 0) ∧ (∃ z, z ≤ 300 ∧ V 1 = nI z) ∧ (∃ z, z ≤ 20 ∧ V 2 = nI z) ∧ V 3 = nI n ∧ n ≤ 8 ∧ V 4 = nI m ∧ m ≤ 4 ∧ (∃ z, z ≤ 9999 ∧ V 10 = nI z) ∧ (∃ z, z ≤ 999 ∧ V 11 = nI z) ∧
  (∀ k, k < n → (V (12 + k) = 0 ∨ V (12 + k) = 1 ∨ V (12 + k) = 2) ∧ (V (20 + k) = -1 ∨ ∃ z, z ≤ 9999 ∧ V (20 + k) = nI z) ∧ (∃ z, 1 ≤ z ∧ z ≤ 20 ∧ V (28 + k) = nI z) ∧ (∃ z, z < 2 ^ n ∧ V (36 + k) = nI z) ∧ (∃ z, 1 ≤ z ∧ z ≤ 40 ∧ V (44 + k) = nI z) ∧ (∃ z, z ≤ 30 ∧ V (52 + k) = nI z) ∧ (∃ z, 1 ≤ z ∧ z ≤ 20 ∧ V (64 + k) = nI z) ∧ (∃ z, z < 2 ^ n ∧ V (72 + k) = nI z)) ∧
  (∀ k, k < m → ∃ z, 1 ≤ z ∧ z ≤ 60 ∧ V (60 + k) = nI z) ∧
  V 100 = nI c ∧ c ≤ 10 ∧ (∀ j, j < c → (∃ z, z ≤ 60 ∧ V (80 + 2 * j) = nI z) ∧ (V (81 + 2 * j) = -1 ∨ ∃ z, z < n ∧ V (81 + 2 * j) = nI z))
def vIn (V : Nat → Int32) (k : Nat) : Bool := decide (V (12 + k) = 0)
def vLb (V : Nat → Int32) (k : Nat) : Bool := decide (V (12 + k) = 1)
/-- State i stands for V -/
def stR (h : xH) (i : Nat) (V : Nat → Int32) (n : Nat) : Prop :=
  h.1 6 0 i = V 10 ∧ h.1 6 1 i = V 11 ∧ h.1 6 2 i = nI (bs (vIn V) n) ∧ h.1 6 3 i = nI (bs (vLb V) n) ∧ ∀ k, k < n → h.2.2.2.1 29 i k = V (20 + k) ∧ h.2.2.2.1 30 i k = V (36 + k) ∧ h.2.2.2.1 31 i k = V (28 + k) ∧ h.2.2.2.1 32 i k = V (44 + k)
/-- Told i stands for V -/
def toR (h : xH) (i : Nat) (V : Nat → Int32) (n m : Nat) : Prop :=
  h.1 8 0 i = V 0 ∧ h.1 8 1 i = V 1 ∧ h.1 8 2 i = V 2 ∧ h.1 8 3 i = V 3 ∧ h.1 8 4 i = V 4 ∧ (∀ k, k < n → h.2.2.2.1 37 i k = V (64 + k) ∧ h.2.2.2.1 38 i k = V (44 + k) ∧ h.2.2.2.1 39 i k = V (52 + k) ∧ h.2.2.2.1 40 i k = V (72 + k)) ∧ (∀ k, k < m → h.2.2.2.1 41 i k = V (60 + k)) ∧ ∀ k, m ≤ k → k < 4 → h.2.2.2.1 41 i k = 0
/-- Scene i stands for V -/
def scR (h : xH) (i : Nat) (V : Nat → Int32) (n m c : Nat) : Prop :=
  vOk V n m c ∧ toR h i V n m ∧ stR h i V n ∧ h.1 4 4 i = V 100 ∧ ∀ j, j < c → h.2.2.2.1 20 i j = V (80 + 2 * j) ∧ h.2.2.2.1 21 i j = V (81 + 2 * j)
/-- the tapes are alike -/
def tpR (h : xH) : Prop := ∃ t : Nat, t ≤ 400 ∧ h.1 7 6 0 = nI t ∧ h.1 12 1 0 = nI t ∧ ∀ j, j < t → h.2.2.2.1 33 0 j = h.2.2.2.1 47 0 j ∧ (h.2.2.2.1 47 0 j).toInt8.toInt32 = h.2.2.2.1 47 0 j
/-- the rule in force and x, of scene and reference -/
def fxR (h : xH) (R : Nat) : Prop := h.1 4 2 0 = h.1 12 21 0 ∧ h.1 4 3 0 = h.1 12 22 0 ∧ (h.1 12 21 0 = -1 ∨ ∃ r, r < R ∧ h.1 12 21 0 = nI r) ∧ 0 ≤ h.1 12 22 0
/-- image k -/
def imV (h : xH) (k : Nat) : Nat → Int32 := fun j => h.2.2.2.1 66 0 (101 * k + j)
def imR (h : xH) (R k : Nat) : Prop := h.2.2.2.1 45 0 k = h.2.2.2.1 69 0 k ∧ (h.2.2.2.1 69 0 k = 0 ∨ (h.2.2.2.1 69 0 k = 1 ∧ (∃ n m c, scR h (1 + k) (imV h k) n m c) ∧ h.1 4 2 (1 + k) = h.2.2.2.1 67 0 k ∧ h.1 4 3 (1 + k) = h.2.2.2.1 68 0 k ∧ (h.2.2.2.1 67 0 k = -1 ∨ ∃ r, r < R ∧ h.2.2.2.1 67 0 k = nI r) ∧ 0 ≤ h.2.2.2.1 68 0 k))
/-- what was ahead of an act, u acts ago counted from the eldest -/
def paV (h : xH) (j : Nat) : Nat → Int32 := fun t => if 10 ≤ t ∧ t < 44 then h.2.2.2.1 57 0 (34 * j + (t - 10)) else mS h t
def paR (h : xH) (n m c : Nat) : Prop := ∃ u x : Nat, u ≤ 20 ∧ x < 20 ∧ h.1 1 2 0 = nI u ∧ h.1 12 24 0 = nI u ∧ h.1 1 1 0 = nI x ∧ ∀ j, j < u → vOk (paV h j) n m c ∧ stR h (5 + (x + 20 - u + j) % 20) (paV h j) n
/-- what the store holds, rules apart -/
def jI (h : xH) (R : Nat) : Prop := tpR h ∧ fxR h R ∧ (∀ k, k < 4 → imR h R k) ∧ ∃ n m c, scR h 0 (mS h) n m c ∧ paR h n m c
/-! what a store is read at -/
theorem stR_of {h h' : xH} {i i' n : Nat} {V : Nat → Int32} (hI : ∀ k, k < 4 → h'.1 6 k i' = h.1 6 k i) (hA : ∀ f, 29 ≤ f → f ≤ 32 → ∀ k, k < n → h'.2.2.2.1 f i' k = h.2.2.2.1 f i k) (hr : stR h i V n) : stR h' i' V n := by
  obtain ⟨a, b, c, d, e⟩ := hr
  refine ⟨by rw [hI 0 (by decide)]; exact a, by rw [hI 1 (by decide)]; exact b, by rw [hI 2 (by decide)]; exact c, by rw [hI 3 (by decide)]; exact d, fun k hk => ?_⟩
  rw [hA 29 (by decide) (by decide) k hk, hA 30 (by decide) (by decide) k hk, hA 31 (by decide) (by decide) k hk, hA 32 (by decide) (by decide) k hk]
  exact e k hk
theorem toR_of {h h' : xH} {i i' n m : Nat} {V : Nat → Int32} (hI : ∀ k, k < 5 → h'.1 8 k i' = h.1 8 k i) (hA : ∀ f, 37 ≤ f → f ≤ 40 → ∀ k, k < n → h'.2.2.2.1 f i' k = h.2.2.2.1 f i k) (hB : ∀ k, k < m ∨ k < 4 → h'.2.2.2.1 41 i' k = h.2.2.2.1 41 i k) (hr : toR h i V n m) : toR h' i' V n m := by
  obtain ⟨a, b, c, d, e, f, g⟩ := hr
  refine ⟨by rw [hI 0 (by decide)]; exact a, by rw [hI 1 (by decide)]; exact b, by rw [hI 2 (by decide)]; exact c, by rw [hI 3 (by decide)]; exact d, by rw [hI 4 (by decide)]; exact e, fun k hk => ?_, fun k hk => by rw [hB k (Or.inl hk)]; exact g.1 k hk, fun k hk h4 => by rw [hB k (Or.inr h4)]; exact g.2 k hk h4⟩
  rw [hA 37 (by decide) (by decide) k hk, hA 38 (by decide) (by decide) k hk, hA 39 (by decide) (by decide) k hk, hA 40 (by decide) (by decide) k hk]
  exact f k hk
/-- two stores that hold the same of trugs, images and acts: families 1, 4, 6, 8 (fields) and their rows, the reference's said, wasSaid, images; the tape, the force and x apart -/
def sameT (h h' : xH) : Prop :=
  (∀ k i, h'.1 6 k i = h.1 6 k i) ∧ (∀ k i, h'.1 8 k i = h.1 8 k i) ∧ (∀ i, h'.1 4 4 i = h.1 4 4 i) ∧ (∀ f, f ≠ 33 → f ≠ 47 → h'.2.2.2.1 f = h.2.2.2.1 f) ∧ (∀ k, h'.1 1 k 0 = h.1 1 k 0) ∧ h'.1 12 24 0 = h.1 12 24 0 ∧ (∀ i, 1 ≤ i → h'.1 4 2 i = h.1 4 2 i ∧ h'.1 4 3 i = h.1 4 3 i)
theorem scR_same {h h' : xH} (hs : sameT h h') {i n m c : Nat} {V : Nat → Int32} (hr : scR h i V n m c) : scR h' i V n m c := by
  obtain ⟨s1, s2, s3, s4, -⟩ := hs
  obtain ⟨a, b, d, e, f⟩ := hr
  refine ⟨a, toR_of (fun k _ => s2 k i) (fun g h1 h2 k _ => by rw [s4 g (by omega) (by omega)]) (fun k _ => by rw [s4 41 (by decide) (by decide)]) b, stR_of (fun k _ => s1 k i) (fun g h1 h2 k _ => by rw [s4 g (by omega) (by omega)]) d, by rw [s3]; exact e, fun j hj => ?_⟩
  rw [s4 20 (by decide) (by decide), s4 21 (by decide) (by decide)]
  exact f j hj
theorem mS_same {h h' : xH} (hs : sameT h h') : mS h' = mS h := by
  funext j
  show h'.2.2.2.1 56 0 j = h.2.2.2.1 56 0 j
  rw [hs.2.2.2.1 56 (by decide) (by decide)]
theorem imR_same {h h' : xH} (hs : sameT h h') {R k : Nat} (hr : imR h R k) : imR h' R k := by
  obtain ⟨-, -, -, s4, -, -, s7⟩ := id hs
  have e : imV h' k = imV h k := by
    funext j
    show h'.2.2.2.1 66 0 _ = h.2.2.2.1 66 0 _
    rw [s4 66 (by decide) (by decide)]
  unfold imR at hr ⊢
  rw [e, s4 45 (by decide) (by decide), s4 69 (by decide) (by decide), s4 67 (by decide) (by decide), s4 68 (by decide) (by decide), (s7 (1 + k) (by omega)).1, (s7 (1 + k) (by omega)).2]
  refine ⟨hr.1, hr.2.imp id (fun q => ⟨q.1, ?_, q.2.2⟩)⟩
  obtain ⟨n, m, c, q2⟩ := q.2.1
  exact ⟨n, m, c, scR_same hs q2⟩
theorem paR_same {h h' : xH} (hs : sameT h h') {n m c : Nat} (hr : paR h n m c) : paR h' n m c := by
  obtain ⟨s1, -, -, s4, s5, s6, -⟩ := id hs
  obtain ⟨u, x, a, b, d, e, f, g⟩ := hr
  have ev : ∀ j, paV h' j = paV h j := by
    intro j
    funext t
    unfold paV
    rw [mS_same hs, s4 57 (by decide) (by decide)]
  refine ⟨u, x, a, b, by rw [s5]; exact d, by rw [s6]; exact e, by rw [s5]; exact f, fun j hj => ?_⟩
  rw [ev j]
  exact ⟨(g j hj).1, stR_of (fun k _ => s1 k _) (fun z h1 h2 k _ => by rw [s4 z (by omega) (by omega)]) (g j hj).2⟩
/-- only the tapes, the force and x may differ -/
theorem jI_same {h h' : xH} {R : Nat} (hs : sameT h h') (h1 : tpR h') (h2 : fxR h' R) (hr : jI h R) : jI h' R := by
  obtain ⟨-, -, a, n, m, c, b, d⟩ := hr
  refine ⟨h1, h2, fun k hk => imR_same hs (a k hk), n, m, c, ?_, paR_same hs d⟩
  rw [mS_same hs]
  exact scR_same hs b
