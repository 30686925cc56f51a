/-! PURE: sums over sets, rows of distinct ones -/
def nsum (f : Nat → Nat) (p : Nat → Bool) : Nat → Nat
  | 0 => 0
  | n + 1 => nsum f p n + (if p n then f n else 0)
theorem nsum_set {f : Nat → Nat} {p q : Nat → Bool} {j : Nat} (hp : p j = false) (hq : q j = true) : ∀ {n : Nat}, (∀ k, k < n → k ≠ j → q k = p k) → nsum f q n = if j < n then nsum f p n + f j else nsum f p n
  | 0, _ => by rw [if_neg (by omega)]; rfl
  | n + 1, h => by
    have ih := nsum_set (f := f) hp hq (n := n) (fun k hk => h k (by omega))
    show nsum f q n + (if q n then f n else 0) = if j < n + 1 then nsum f p n + (if p n then f n else 0) + f j else nsum f p n + (if p n then f n else 0)
    by_cases e : n = j
    · subst e
      rw [ih, if_neg (show ¬ n < n by omega), if_pos (show n < n + 1 by omega), hp, hq]
      rfl
    · rw [h n (by omega) e, ih]
      by_cases c : j < n
      · rw [if_pos c, if_pos (show j < n + 1 by omega)]
        omega
      · rw [if_neg c, if_neg (show ¬ j < n + 1 by omega)]
theorem nsum_congr {f f' : Nat → Nat} {p p' : Nat → Bool} : ∀ {n : Nat}, (∀ k, k < n → p k = p' k ∧ (p k = true → f k = f' k)) → nsum f p n = nsum f' p' n
  | 0, _ => rfl
  | n + 1, h => by
    show nsum f p n + (if p n then f n else 0) = nsum f' p' n + (if p' n then f' n else 0)
    rw [nsum_congr (fun k hk => h k (by omega))]
    obtain ⟨h1, h2⟩ := h n (by omega)
    rw [← h1]
    cases hp : p n with
    | true => rw [h2 hp]
    | false => rfl
theorem isum_n {e : Nat → Int32} {f : Nat → Nat} {p : Nat → Bool} : ∀ {n : Nat}, (∀ k, k < n → p k = true → e k = nI (f k)) → isum e p n = nI (nsum f p n)
  | 0, _ => nI_0.symm
  | n + 1, h => by
    show isum e p n + (if p n then e n else 0) = nI (nsum f p n + (if p n then f n else 0))
    rw [isum_n (fun k hk => h k (by omega)), ← nI_add]
    cases hp : p n with
    | true => rw [if_pos rfl, if_pos rfl, h n (by omega) hp]
    | false => rfl
theorem nsum_le {f : Nat → Nat} {p : Nat → Bool} {M : Nat} : ∀ {n : Nat}, (∀ k, k < n → p k = true → f k ≤ M) → nsum f p n ≤ M * n
  | 0, _ => Nat.zero_le _
  | n + 1, h => by
    have ih := nsum_le (f := f) (p := p) (M := M) (n := n) (fun k hk => h k (by omega))
    show nsum f p n + (if p n then f n else 0) ≤ M * (n + 1)
    rw [Nat.mul_add, Nat.mul_one]
    cases hp : p n with
    | true =>
      have := h n (by omega) hp
      rw [if_pos rfl]
      omega
    | false =>
      rw [if_neg (by decide)]
      omega
/-- the sum over a set -/
def wt (f : Nat → Nat) (S : Nat) : Nat := nsum f (fun k => S.testBit k) 8
theorem or_bit {S j k : Nat} : (S ||| 2 ^ j).testBit k = true ↔ (S.testBit k = true ∨ k = j) := by
  rw [Nat.testBit_or, Nat.testBit_two_pow, Bool.or_eq_true, decide_eq_true_iff]
  exact ⟨fun z => z.imp id Eq.symm, fun z => z.imp id Eq.symm⟩
theorem wt_add {f : Nat → Nat} {S j : Nat} (hj : j < 8) (hb : S.testBit j = false) : wt f (S ||| 2 ^ j) = wt f S + f j := by
  have := nsum_set (f := f) (p := fun k => S.testBit k) (q := fun k => (S ||| 2 ^ j).testBit k) (j := j) hb (or_bit.mpr (Or.inr rfl)) (n := 8) (fun k hk hne => by
    show (S ||| 2 ^ j).testBit k = S.testBit k
    rw [Nat.testBit_or, Nat.testBit_two_pow, decide_eq_false (fun z => hne z.symm), Bool.or_false])
  rw [if_pos hj] at this
  exact this
theorem wt_0 {f : Nat → Nat} : wt f 0 = 0 := by
  have : wt f 0 = nsum (fun _ => 0) (fun k => (0 : Nat).testBit k) 8 := nsum_congr (fun k _ => ⟨rfl, fun z => by rw [Nat.zero_testBit] at z; cases z⟩)
  rw [this]
  rfl
theorem wt_le {f : Nat → Nat} {S M : Nat} (h : ∀ k, S.testBit k = true → f k ≤ M) : wt f S ≤ M * 8 := nsum_le (fun k _ z => h k z)
theorem ad_e : ∀ S, S < 256 → S ≠ 0 → S &&& (S - 1) < S ∧ tzN S < 8 ∧ (S &&& (S - 1)).testBit (tzN S) = false ∧ ((S &&& (S - 1)) ||| 2 ^ (tzN S)) = S := by decide +kernel
theorem c_tz {h : xH} {L : Nat} (hL : L < 256) (h0 : L ≠ 0) : f_Integer_numberOfTrailingZeros (nI L) h = some (nI (tzN L)) := by
  have e : f_Integer_numberOfTrailingZeros (nI L) h = f_Integer_numberOfTrailingZeros (nI L) h00 := rfl
  rw [e, (tz_e L hL h0).1]
theorem is_0 {e : Nat → Int32} : isum e (fun k => (0 : Nat).testBit k) 8 = 0 := by
  have : isum e (fun k => (0 : Nat).testBit k) 8 = nI (nsum (fun _ => 0) (fun k => (0 : Nat).testBit k) 8) := isum_n (fun k _ z => by rw [Nat.zero_testBit] at z; cases z)
  rw [this]
  decide
theorem is_low {e : Nat → Int32} {S : Nat} (hS : S < 256) (h0 : S ≠ 0) : isum e (fun k => (S &&& (S - 1)).testBit k) 8 + e (tzN S) = isum e (fun k => S.testBit k) 8 := by
  obtain ⟨h1, h2, h3, h4⟩ := ad_e S hS h0
  have := isum_set (f := e) (p := fun k => (S &&& (S - 1)).testBit k) (q := fun k => S.testBit k) (j := tzN S) h3 (by
    show S.testBit (tzN S) = true
    rw [← h4]
    rw [h4]
    have := (or_bit (S := S &&& (S - 1)) (j := tzN S) (k := tzN S)).mpr (Or.inr rfl)
    rw [h4] at this
    exact this) (n := 8) (fun k hk hne => by
    show S.testBit k = (S &&& (S - 1)).testBit k
    have q : ((S &&& (S - 1)) ||| 2 ^ (tzN S)).testBit k = (S &&& (S - 1)).testBit k := by
      rw [Nat.testBit_or, Nat.testBit_two_pow, decide_eq_false (fun z => hne z.symm), Bool.or_false]
    rw [h4] at q
    exact q)
  rw [if_pos h2] at this
  exact this.symm
theorem c_addUp_32_24 {h : xH} {i0 : Nat} : ∃ A, f_Sets_addUp_32_24 i0 h = some (xsA h 24 0 A) ∧ ∀ S, S < 256 → A S = isum (fun k => h.2.2.2.1 32 i0 k) (fun k => S.testBit k) 8 := by
  have key := whl_cntE (step := fun s : Int32 × xH => f_Sets_addUp_32_24_s6 i0 s.1 s.2) 255 (fun k s => s.1 = nI (k + 1) ∧ ∃ A, s.2 = xsA h 24 0 A ∧ ∀ S, S < k + 1 → A S = isum (fun k => h.2.2.2.1 32 i0 k) (fun k => S.testBit k) 8) (fun x => ∃ A, x = xsA h 24 0 A ∧ ∀ S, S < 256 → A S = isum (fun k => h.2.2.2.1 32 i0 k) (fun k => S.testBit k) 8) ?_ ?_ (1, xsA h 24 0 (upd (h.2.2.2.1 24 0) 0 0)) ⟨rfl, _, rfl, fun S hS => ?_⟩
  · obtain ⟨x, e, A, rfl, q⟩ := key
    exact ⟨A, e, q⟩
  · rintro k hk ⟨q1, g⟩ ⟨e1, A, eg, l⟩
    have e1 : q1 = nI (k + 1) := e1
    have eg : g = xsA h 24 0 A := eg
    subst e1
    subst eg
    left
    obtain ⟨a1, a2, a3, a4⟩ := ad_e (k + 1) (by omega) (by omega)
    refine ⟨(nI (k + 2), xsA h 24 0 (upd A (k + 1) (A ((k + 1) &&& (k + 1 - 1)) + h.2.2.2.1 32 i0 (tzN (k + 1))))), ?_, rfl, _, rfl, fun S hS => ?_⟩
    · show f_Sets_addUp_32_24_s6 i0 (nI (k + 1)) (xsA h 24 0 A) = _
      unfold f_Sets_addUp_32_24_s6
      rw [if_neg (show ¬ (256 : Int32) ≤ nI (k + 1) from nI_ge (b := 256) (by omega) (by decide)), c_tz (by omega) (by omega), Option.bind_some, (bt_step (k + 1) (by omega) (by omega)).1, if_pos (xibN (by omega) (by decide)), if_pos (xibN (by omega) (by decide)), if_pos (xibN (by omega) (by decide)), nI_clamp (by omega), nI_clamp (by omega), nI_clamp (by omega), rdA_s, rdA_n (by omega), xsA_2, xlet_e, xlet_e, nI_1]
    · by_cases q : S = k + 1
      · subst q
        rw [pk_us, l _ (by omega)]
        exact is_low (e := fun k => h.2.2.2.1 32 i0 k) (by omega) (by omega)
      · rw [pk_un q]
        exact l S (by omega)
  · rintro ⟨q1, g⟩ ⟨e1, A, eg, l⟩
    have e1 : q1 = nI 256 := e1
    have eg : g = xsA h 24 0 A := eg
    subst e1
    subst eg
    refine ⟨xsA h 24 0 A, ?_, A, rfl, l⟩
    show f_Sets_addUp_32_24_s6 i0 (nI 256) (xsA h 24 0 A) = _
    unfold f_Sets_addUp_32_24_s6
    rw [if_pos (by decide)]
  · have : S = 0 := by omega
    subst this
    rw [pk_us]
    exact is_0.symm
theorem c_addUp_39_23 {h : xH} {i0 : Nat} : ∃ A, f_Sets_addUp_39_23 i0 h = some (xsA h 23 0 A) ∧ ∀ S, S < 256 → A S = isum (fun k => h.2.2.2.1 39 i0 k) (fun k => S.testBit k) 8 := by
  have key := whl_cntE (step := fun s : Int32 × xH => f_Sets_addUp_39_23_s6 i0 s.1 s.2) 255 (fun k s => s.1 = nI (k + 1) ∧ ∃ A, s.2 = xsA h 23 0 A ∧ ∀ S, S < k + 1 → A S = isum (fun k => h.2.2.2.1 39 i0 k) (fun k => S.testBit k) 8) (fun x => ∃ A, x = xsA h 23 0 A ∧ ∀ S, S < 256 → A S = isum (fun k => h.2.2.2.1 39 i0 k) (fun k => S.testBit k) 8) ?_ ?_ (1, xsA h 23 0 (upd (h.2.2.2.1 23 0) 0 0)) ⟨rfl, _, rfl, fun S hS => ?_⟩
  · obtain ⟨x, e, A, rfl, q⟩ := key
    exact ⟨A, e, q⟩
  · rintro k hk ⟨q1, g⟩ ⟨e1, A, eg, l⟩
    have e1 : q1 = nI (k + 1) := e1
    have eg : g = xsA h 23 0 A := eg
    subst e1
    subst eg
    left
    obtain ⟨a1, a2, a3, a4⟩ := ad_e (k + 1) (by omega) (by omega)
    refine ⟨(nI (k + 2), xsA h 23 0 (upd A (k + 1) (A ((k + 1) &&& (k + 1 - 1)) + h.2.2.2.1 39 i0 (tzN (k + 1))))), ?_, rfl, _, rfl, fun S hS => ?_⟩
    · show f_Sets_addUp_39_23_s6 i0 (nI (k + 1)) (xsA h 23 0 A) = _
      unfold f_Sets_addUp_39_23_s6
      rw [if_neg (show ¬ (256 : Int32) ≤ nI (k + 1) from nI_ge (b := 256) (by omega) (by decide)), c_tz (by omega) (by omega), Option.bind_some, (bt_step (k + 1) (by omega) (by omega)).1, if_pos (xibN (by omega) (by decide)), if_pos (xibN (by omega) (by decide)), if_pos (xibN (by omega) (by decide)), nI_clamp (by omega), nI_clamp (by omega), nI_clamp (by omega), rdA_s, rdA_n (by omega), xsA_2, xlet_e, xlet_e, nI_1]
    · by_cases q : S = k + 1
      · subst q
        rw [pk_us, l _ (by omega)]
        exact is_low (e := fun k => h.2.2.2.1 39 i0 k) (by omega) (by omega)
      · rw [pk_un q]
        exact l S (by omega)
  · rintro ⟨q1, g⟩ ⟨e1, A, eg, l⟩
    have e1 : q1 = nI 256 := e1
    have eg : g = xsA h 23 0 A := eg
    subst e1
    subst eg
    refine ⟨xsA h 23 0 A, ?_, A, rfl, l⟩
    show f_Sets_addUp_39_23_s6 i0 (nI 256) (xsA h 23 0 A) = _
    unfold f_Sets_addUp_39_23_s6
    rw [if_pos (by decide)]
  · have : S = 0 := by omega
    subst this
    rw [pk_us]
    exact is_0.symm
theorem c_addUp_31_15 {h : xH} {i0 : Nat} : ∃ A, f_Sets_addUp_31_15 i0 h = some (xsA h 15 0 A) ∧ ∀ S, S < 256 → A S = isum (fun k => h.2.2.2.1 31 i0 k) (fun k => S.testBit k) 8 := by
  have key := whl_cntE (step := fun s : Int32 × xH => f_Sets_addUp_31_15_s6 i0 s.1 s.2) 255 (fun k s => s.1 = nI (k + 1) ∧ ∃ A, s.2 = xsA h 15 0 A ∧ ∀ S, S < k + 1 → A S = isum (fun k => h.2.2.2.1 31 i0 k) (fun k => S.testBit k) 8) (fun x => ∃ A, x = xsA h 15 0 A ∧ ∀ S, S < 256 → A S = isum (fun k => h.2.2.2.1 31 i0 k) (fun k => S.testBit k) 8) ?_ ?_ (1, xsA h 15 0 (upd (h.2.2.2.1 15 0) 0 0)) ⟨rfl, _, rfl, fun S hS => ?_⟩
  · obtain ⟨x, e, A, rfl, q⟩ := key
    exact ⟨A, e, q⟩
  · rintro k hk ⟨q1, g⟩ ⟨e1, A, eg, l⟩
    have e1 : q1 = nI (k + 1) := e1
    have eg : g = xsA h 15 0 A := eg
    subst e1
    subst eg
    left
    obtain ⟨a1, a2, a3, a4⟩ := ad_e (k + 1) (by omega) (by omega)
    refine ⟨(nI (k + 2), xsA h 15 0 (upd A (k + 1) (A ((k + 1) &&& (k + 1 - 1)) + h.2.2.2.1 31 i0 (tzN (k + 1))))), ?_, rfl, _, rfl, fun S hS => ?_⟩
    · show f_Sets_addUp_31_15_s6 i0 (nI (k + 1)) (xsA h 15 0 A) = _
      unfold f_Sets_addUp_31_15_s6
      rw [if_neg (show ¬ (256 : Int32) ≤ nI (k + 1) from nI_ge (b := 256) (by omega) (by decide)), c_tz (by omega) (by omega), Option.bind_some, (bt_step (k + 1) (by omega) (by omega)).1, if_pos (xibN (by omega) (by decide)), if_pos (xibN (by omega) (by decide)), if_pos (xibN (by omega) (by decide)), nI_clamp (by omega), nI_clamp (by omega), nI_clamp (by omega), rdA_s, rdA_n (by omega), xsA_2, xlet_e, xlet_e, nI_1]
    · by_cases q : S = k + 1
      · subst q
        rw [pk_us, l _ (by omega)]
        exact is_low (e := fun k => h.2.2.2.1 31 i0 k) (by omega) (by omega)
      · rw [pk_un q]
        exact l S (by omega)
  · rintro ⟨q1, g⟩ ⟨e1, A, eg, l⟩
    have e1 : q1 = nI 256 := e1
    have eg : g = xsA h 15 0 A := eg
    subst e1
    subst eg
    refine ⟨xsA h 15 0 A, ?_, A, rfl, l⟩
    show f_Sets_addUp_31_15_s6 i0 (nI 256) (xsA h 15 0 A) = _
    unfold f_Sets_addUp_31_15_s6
    rw [if_pos (by decide)]
  · have : S = 0 := by omega
    subst this
    rw [pk_us]
    exact is_0.symm
/-! rows -/
def sP (p : Nat → Nat) : Nat → Nat
  | 0 => 0
  | k + 1 => sP p k ||| 2 ^ (p k)
theorem sP_bit {p : Nat → Nat} {y : Nat} : ∀ {k : Nat}, (sP p k).testBit y = true ↔ ∃ j, j < k ∧ p j = y
  | 0 => by
    show (0 : Nat).testBit y = true ↔ _
    rw [Nat.zero_testBit]
    exact ⟨fun z => by (cases z), fun ⟨j, hj, _⟩ => absurd hj (by omega)⟩
  | k + 1 => by
    show (sP p k ||| 2 ^ (p k)).testBit y = true ↔ _
    rw [or_bit, sP_bit (k := k)]
    constructor
    · rintro (⟨j, hj, e⟩ | e)
      · exact ⟨j, by omega, e⟩
      · exact ⟨k, by omega, e.symm⟩
    · rintro ⟨j, hj, e⟩
      by_cases q : j = k
      · subst q; exact Or.inr e.symm
      · exact Or.inl ⟨j, by omega, e⟩
theorem sP_f {p : Nat → Nat} {k y : Nat} (h : ∀ j, j < k → p j ≠ y) : (sP p k).testBit y = false := by
  cases hb : (sP p k).testBit y with
  | false => rfl
  | true =>
    obtain ⟨j, hj, e⟩ := sP_bit.mp hb
    exact absurd e (h j hj)
theorem two_lt : ∀ x, x < 8 → 2 ^ x < 256 := by decide
theorem sP_lt {p : Nat → Nat} : ∀ {k : Nat}, (∀ i, i < k → p i < 8) → sP p k < 256
  | 0, _ => by show 0 < 256; decide
  | k + 1, h => or_lt8 (sP_lt (fun i hi => h i (by omega))) (two_lt _ (h k (by omega)))
theorem sP_congr {p q : Nat → Nat} : ∀ {k : Nat}, (∀ i, i < k → p i = q i) → sP p k = sP q k
  | 0, _ => rfl
  | k + 1, h => by
    show sP p k ||| 2 ^ (p k) = sP q k ||| 2 ^ (q k)
    rw [sP_congr (fun i hi => h i (by omega)), h k (by omega)]
theorem pc_or : ∀ B, B < 256 → ∀ k, k < 8 → B.testBit k = false → pc (B ||| 2 ^ k) = pc B + 1 := by decide +kernel
/-- a row of k distinct ones below 8 -/
def dR (p : Nat → Nat) (k : Nat) : Prop := (∀ i, i < k → p i < 8) ∧ ∀ j i, j < i → i < k → p j ≠ p i
theorem dR_le {p : Nat → Nat} {k m : Nat} (h : dR p k) (hm : m ≤ k) : dR p m := ⟨fun i hi => h.1 i (by omega), fun j i hj hi => h.2 j i hj (by omega)⟩
theorem dR_new {p : Nat → Nat} {k : Nat} (h : dR p (k + 1)) : (sP p k).testBit (p k) = false := sP_f (fun j hj => h.2 j k hj (by omega))
theorem sP_pc {p : Nat → Nat} : ∀ {k : Nat}, dR p k → pc (sP p k) = k
  | 0, _ => by show pc 0 = 0; decide
  | k + 1, h => by
    show pc (sP p k ||| 2 ^ (p k)) = k + 1
    rw [pc_or _ (sP_lt (dR_le h (by omega)).1) _ (h.1 k (by omega)) (dR_new h), sP_pc (dR_le h (by omega))]
theorem dR_8 {p : Nat → Nat} {k : Nat} (h : dR p k) : k ≤ 8 := by
  have := pc_le _ (sP_lt h.1)
  rw [sP_pc h] at this
  exact this
def rN (f : Nat → Nat) (p : Nat → Nat) : Nat → Nat
  | 0 => 0
  | k + 1 => rN f p k + f (p k)
theorem rN_wt {f : Nat → Nat} {p : Nat → Nat} : ∀ {k : Nat}, dR p k → rN f p k = wt f (sP p k)
  | 0, _ => wt_0.symm
  | k + 1, h => by
    show rN f p k + f (p k) = wt f (sP p k ||| 2 ^ (p k))
    rw [wt_add (h.1 k (by omega)) (dR_new h), rN_wt (dR_le h (by omega))]
theorem rN_congr {f : Nat → Nat} {p q : Nat → Nat} : ∀ {k : Nat}, (∀ i, i < k → p i = q i) → rN f p k = rN f q k
  | 0, _ => rfl
  | k + 1, h => by
    show rN f p k + f (p k) = rN f q k + f (q k)
    rw [rN_congr (fun i hi => h i (by omega)), h k (by omega)]
/-- the reference's row stands for p -/
def rwR (h : xH) (p : Nat → Nat) (k : Nat) : Prop := ∀ i, i < k → h.2.2.2.1 59 0 i = nI (p i)
theorem m_rowSum {h : xH} {k a : Nat} {c : Int32} {f p : Nat → Nat} (hc : c = nI a) (ha : a ≤ 92) (hk : k ≤ 9) (hr : rwR h p k) (hp : ∀ i, i < k → p i < 8) (hf : ∀ i, i < k → mS h (a + p i) = nI (f (p i))) : f_M_rowSum (nI k) c h = some (nI (rN f p k)) := by
  refine whl_cnt (step := fun s : Int32 × Int32 => f_M_rowSum_s5 (nI k) c s.1 s.2 h) k (fun i => (nI (rN f p i), nI i)) _ (fun i hi => ?_) ?_
  · show f_M_rowSum_s5 (nI k) c (nI (rN f p i)) (nI i) h = some (Sum.inl (nI (rN f p i + f (p i)), nI (i + 1)))
    have h8 := hp i hi
    unfold f_M_rowSum_s5
    rw [if_neg (nI_ge hi (by omega)), if_pos (xibN (by omega) (by decide)), nI_clamp (by omega), hr i hi, if_pos (xibA hc (by omega) (by decide)), ixA hc (by omega), xlet_e, xlet_e]
    show some (Sum.inl (nI (rN f p i) + mS h (a + p i), nI i + 1)) = _
    rw [hf i hi, nI_add, nI_1]
  · show f_M_rowSum_s5 (nI k) c (nI (rN f p k)) (nI k) h = _
    unfold f_M_rowSum_s5
    rw [if_pos (Int32.le_refl _)]
