/-! PURE: sets of at most eight as numbers, loops that count, the reference's small questions -/
theorem whl_cnt {σ ρ : Type} {step : σ → Option (σ ⊕ ρ)} (n : Nat) (s : Nat → σ) (x : ρ) (hs : ∀ k, k < n → step (s k) = some (Sum.inl (s (k + 1)))) (he : step (s n) = some (Sum.inr x)) : whl step (s 0) = some x := by
  have key : ∀ j, j ≤ n → whl step (s (n - j)) = some x := by
    intro j
    induction j with
    | zero => intro _; rw [Nat.sub_zero, whl_eq, he]; rfl
    | succ j ih =>
      intro hj
      rw [whl_eq, hs (n - (j + 1)) (by omega)]
      show whl step (s (n - (j + 1) + 1)) = some x
      rw [show n - (j + 1) + 1 = n - j by omega]
      exact ih (by omega)
  have := key n (Nat.le_refl n)
  rw [Nat.sub_self] at this
  exact this
/-- the set of those below n that p holds of -/
def bs (p : Nat → Bool) : Nat → Nat
  | 0 => 0
  | n + 1 => bs p n + (if p n then 2 ^ n else 0)
theorem bs_lt (p : Nat → Bool) : ∀ n, bs p n < 2 ^ n
  | 0 => Nat.one_pos
  | n + 1 => by
    have ih := bs_lt p n
    show bs p n + (if p n then 2 ^ n else 0) < 2 ^ (n + 1)
    rw [Nat.pow_succ]
    split <;> omega
theorem bs_lt8 (p : Nat → Bool) {n : Nat} (h : n ≤ 8) : bs p n < 256 := Nat.lt_of_lt_of_le (bs_lt p n) (show 2 ^ n ≤ 2 ^ 8 from Nat.pow_le_pow_right (by decide) h)
theorem bs_bit (p : Nat → Bool) : ∀ n k, (bs p n).testBit k = (decide (k < n) && p k)
  | 0, k => by simp [bs]
  | n + 1, k => by
    have ih := bs_bit p n k
    have hlt := bs_lt p n
    show (bs p n + (if p n then 2 ^ n else 0)).testBit k = _
    rcases Nat.lt_trichotomy k n with hk | hk | hk
    · have e : decide (k < n + 1) = decide (k < n) := by simp [hk, Nat.lt_succ_of_lt hk]
      rw [e, ← ih]
      split
      · rw [Nat.add_comm, Nat.testBit_two_pow_add_gt hk]
      · rfl
    · subst hk
      have h0 : (bs p k).testBit k = false := Nat.testBit_lt_two_pow hlt
      cases hp : p k with
      | true => simp only [if_true]; rw [Nat.add_comm, Nat.testBit_two_pow_add_eq, h0]; simp
      | false => simp only [Bool.false_eq_true, if_false, Nat.add_zero]; rw [h0]; simp
    · have h0 : (bs p n + (if p n then 2 ^ n else 0)).testBit k = false := Nat.testBit_lt_two_pow (Nat.lt_of_lt_of_le (bs_lt p (n + 1)) (Nat.pow_le_pow_right (by decide) hk))
      rw [h0]
      have : ¬ k < n + 1 := by omega
      simp [this]
theorem bs_congr {p q : Nat → Bool} : ∀ {n : Nat}, (∀ k, k < n → p k = q k) → bs p n = bs q n
  | 0, _ => rfl
  | n + 1, h => by
    show bs p n + _ = bs q n + _
    rw [bs_congr (fun k hk => h k (Nat.lt_succ_of_lt hk)), h n (Nat.lt_succ_self n)]
/-! indices -/
theorem ixA {a j : Nat} {c : Int32} (hc : c = nI a) (h : a + j < 2 ^ 31) : (c + nI j).toNatClampNeg = a + j := by rw [hc, nI_add, nI_clamp h]
theorem xibA {a j n : Nat} {c : Int32} (hc : c = nI a) (h : a + j < n) (hn : n < 2 ^ 31) : xib (c + nI j) n := by
  rw [hc, nI_add]
  exact vp_in_nI h hn
theorem xibN {j n : Nat} (h : j < n) (hn : n < 2 ^ 31) : xib (nI j) n := vp_in_nI h hn
/-! the reference: who is inside, loose, let be -/
abbrev mS (h : xH) (j : Nat) : Int32 := h.2.2.2.1 56 0 j
def mN (h : xH) (n : Nat) : Prop := mS h 3 = nI n ∧ n ≤ 8
def mIn (h : xH) (k : Nat) : Bool := decide (mS h (12 + k) = 0)
section MS
variable {h : xH} {n : Nat}
theorem m_isSorrow_in (hn : mN h n) {j : Nat} (hj : j < n) : f_M_isSorrow (nI j) h = some 1 := by
  show (if nI j < 0 then some 0 else if mS h 3 ≤ nI j then some 0 else some 1) = some (1 : Int32)
  have h8 := hn.2
  rw [if_neg (nI_pos (by omega)), hn.1, if_neg (nI_ge hj (by omega))]
theorem m_isSorrow_out (hn : mN h n) {k : Int32} (hk : k < 0 ∨ nI n ≤ k) : f_M_isSorrow k h = some 0 := by
  show (if k < 0 then some 0 else if mS h 3 ≤ k then some 0 else some 1) = some (0 : Int32)
  by_cases h0 : k < 0
  · rw [if_pos h0]
  · rw [if_neg h0, hn.1, if_pos (hk.resolve_left h0)]
theorem m_isInside_in (hn : mN h n) {j : Nat} (hj : j < n) : f_M_isInside_i (nI j) h = some (if mIn h j then 1 else 0) := by
  have h8 := hn.2
  show (f_M_isSorrow (nI j) h).bind _ = _
  rw [m_isSorrow_in hn hj]
  show (if (1 : Int32) = 0 then some 0 else if xib (12 + nI j) 101 then (if mS h ((12 : Int32) + nI j).toNatClampNeg = 0 then some 1 else some 0) else none) = _
  rw [if_neg (by decide), if_pos (xibA (c := 12) (a := 12) rfl (by omega) (by decide)), ixA (c := 12) (a := 12) rfl (by omega)]
  unfold mIn
  by_cases hz : mS h (12 + j) = 0 <;> simp [hz]
theorem m_isInside_out (hn : mN h n) {k : Int32} (hk : k < 0 ∨ nI n ≤ k) : f_M_isInside_i k h = some 0 := by
  show (f_M_isSorrow k h).bind _ = _
  rw [m_isSorrow_out hn hk]
  rfl
theorem m_inside (hn : mN h n) : f_M_inside h = some (nI (bs (mIn h) n)) := by
  have h8 := hn.2
  show whl (fun s => f_M_inside_s4 s.1 s.2 h) ((fun k => (nI (bs (mIn h) k), nI k)) 0) = _
  refine whl_cnt n (fun k => (nI (bs (mIn h) k), nI k)) _ (fun k hk => ?_) ?_
  · show (if mS h 3 ≤ nI k then _ else (f_M_isInside_i (nI k) h).bind _) = _
    rw [hn.1, if_neg (nI_ge hk (by omega)), m_isInside_in hn hk]
    cases hp : mIn h k with
    | true =>
      show some (Sum.inl (nI (bs (mIn h) k) ||| ((1 : Int32) <<< (nI k &&& 31)), nI k + 1)) = _
      rw [sb_or1 k (by omega) _ (bs_lt _ k), nI_1]
      show _ = some (Sum.inl (nI (bs (mIn h) k + (if mIn h k then 2 ^ k else 0)), nI (k + 1)))
      rw [hp]
      rfl
    | false =>
      show some (Sum.inl (nI (bs (mIn h) k) ||| 0, nI k + 1)) = _
      rw [sb_or0, nI_1]
      show _ = some (Sum.inl (nI (bs (mIn h) k + (if mIn h k then 2 ^ k else 0)), nI (k + 1)))
      rw [hp]
      rfl
  · show (if mS h 3 ≤ nI n then _ else _) = _
    rw [hn.1, if_pos (nI_le (Nat.le_refl n) (by omega))]
/-- loose: inside, and none of those that lie over it is -/
def mLoose (h : xH) (n k : Nat) : Bool := mIn h k && decide (mS h (36 + k) &&& nI (bs (mIn h) n) = 0)
theorem m_isLoose_in (hn : mN h n) {j : Nat} (hj : j < n) : f_M_isLoose (nI j) h = some (if mLoose h n j then 1 else 0) := by
  have h8 := hn.2
  show (f_M_isInside_i (nI j) h).bind _ = _
  rw [m_isInside_in hn hj]
  unfold mLoose
  cases hp : mIn h j with
  | false => rfl
  | true =>
    show (if (1 : Int32) = 0 then some 0 else if xib (36 + nI j) 101 then ((f_M_inside h).bind fun r5 => if mS h ((36 : Int32) + nI j).toNatClampNeg &&& r5 = 0 then some 1 else some 0) else none) = _
    rw [if_neg (by decide), if_pos (xibA (c := 36) (a := 36) rfl (by omega) (by decide)), ixA (c := 36) (a := 36) rfl (by omega), m_inside hn]
    show (if mS h (36 + j) &&& nI (bs (mIn h) n) = 0 then some 1 else some 0) = _
    by_cases hz : mS h (36 + j) &&& nI (bs (mIn h) n) = 0 <;> simp [hz]
theorem m_isLoose_out (hn : mN h n) {k : Int32} (hk : k < 0 ∨ nI n ≤ k) : f_M_isLoose k h = some 0 := by
  show (f_M_isInside_i k h).bind _ = _
  rw [m_isInside_out hn hk]
  rfl
theorem m_looseOnes (hn : mN h n) : f_M_looseOnes h = some (nI (bs (mLoose h n) n)) := by
  have h8 := hn.2
  show whl (fun s => f_M_looseOnes_s4 s.1 s.2 h) ((fun k => (nI (bs (mLoose h n) k), nI k)) 0) = _
  refine whl_cnt n (fun k => (nI (bs (mLoose h n) k), nI k)) _ (fun k hk => ?_) ?_
  · show (if mS h 3 ≤ nI k then _ else (f_M_isLoose (nI k) h).bind _) = _
    rw [hn.1, if_neg (nI_ge hk (by omega)), m_isLoose_in hn hk]
    cases hp : mLoose h n k with
    | true =>
      show some (Sum.inl (nI (bs (mLoose h n) k) ||| ((1 : Int32) <<< (nI k &&& 31)), nI k + 1)) = _
      rw [sb_or1 k (by omega) _ (bs_lt _ k), nI_1]
      show _ = some (Sum.inl (nI (bs (mLoose h n) k + (if mLoose h n k then 2 ^ k else 0)), nI (k + 1)))
      rw [hp]
      rfl
    | false =>
      show some (Sum.inl (nI (bs (mLoose h n) k) ||| 0, nI k + 1)) = _
      rw [sb_or0, nI_1]
      show _ = some (Sum.inl (nI (bs (mLoose h n) k + (if mLoose h n k then 2 ^ k else 0)), nI (k + 1)))
      rw [hp]
      rfl
  · show (if mS h 3 ≤ nI n then _ else _) = _
    rw [hn.1, if_pos (nI_le (Nat.le_refl n) (by omega))]
/-- a sum over a set -/
def isum (f : Nat → Int32) (p : Nat → Bool) : Nat → Int32
  | 0 => 0
  | n + 1 => isum f p n + (if p n then f n else 0)
theorem m_isOf {B k : Nat} (hB : B < 256) (hk : k < 8) : f_M_isOf (nI B) (nI k) h = some (if B.testBit k then 1 else 0) := by
  show (if (nI B >>> (nI k &&& 31)) &&& 1 = 1 then some 1 else some 0) = _
  rw [sb_of B hB k hk]
  cases B.testBit k <;> rfl
theorem m_sumOf (hn : mN h n) {B a : Nat} {c : Int32} (hc : c = nI a) (ha : a + n ≤ 101) (hB : B < 256) : f_M_sumOf (nI B) c h = some (isum (fun k => mS h (a + k)) (fun k => B.testBit k) n) := by
  have h8 := hn.2
  show whl (fun s => f_M_sumOf_s5 (nI B) c s.1 s.2 h) ((fun k => (isum (fun k => mS h (a + k)) (fun k => B.testBit k) k, nI k)) 0) = _
  refine whl_cnt n (fun k => (isum (fun k => mS h (a + k)) (fun k => B.testBit k) k, nI k)) _ (fun k hk => ?_) ?_
  · show (if mS h 3 ≤ nI k then _ else (f_M_isOf (nI B) (nI k) h).bind _) = _
    rw [hn.1, if_neg (nI_ge hk (by omega)), m_isOf hB (by omega)]
    cases hp : B.testBit k with
    | true =>
      show (if xib (c + nI k) 101 then some (Sum.inl (isum (fun k => mS h (a + k)) (fun k => B.testBit k) k + mS h (c + nI k).toNatClampNeg, nI k + 1)) else none) = _
      rw [if_pos (xibA (c := c) (a := a) hc (by omega) (by decide)), ixA (c := c) (a := a) hc (by omega), nI_1]
      show _ = some (Sum.inl (isum (fun k => mS h (a + k)) (fun k => B.testBit k) k + (if B.testBit k then mS h (a + k) else 0), nI (k + 1)))
      rw [hp]
      rfl
    | false =>
      show some (Sum.inl (isum (fun k => mS h (a + k)) (fun k => B.testBit k) k + 0, nI k + 1)) = _
      rw [nI_1]
      show _ = some (Sum.inl (isum (fun k => mS h (a + k)) (fun k => B.testBit k) k + (if B.testBit k then mS h (a + k) else 0), nI (k + 1)))
      rw [hp]
      rfl
  · show (if mS h 3 ≤ nI n then _ else _) = _
    rw [hn.1, if_pos (nI_le (Nat.le_refl n) (by omega))]
def mLb (h : xH) (k : Nat) : Bool := decide (mS h (12 + k) = 1)
end MS
