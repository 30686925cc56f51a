/-! PURE: what a State and a Told answer, by the vector that they stand for; sorrow -/
theorem bs_ext {p : Nat → Bool} {n : Nat} : ∀ m, n ≤ m → (∀ k, n ≤ k → k < m → p k = false) → bs p m = bs p n
  | 0, h, _ => by rw [show n = 0 by omega]
  | m + 1, h, hp => by
    by_cases hm : n = m + 1
    · rw [hm]
    · show bs p m + (if p m then 2 ^ m else 0) = _
      rw [hp m (by omega) (Nat.lt_succ_self m), bs_ext m (by omega) (fun k h1 h2 => hp k h1 (by omega))]
      rfl
theorem isum_ext {f : Nat → Int32} {p : Nat → Bool} {n : Nat} : ∀ m, n ≤ m → (∀ k, n ≤ k → k < m → p k = false) → isum f p m = isum f p n
  | 0, h, _ => by rw [show n = 0 by omega]
  | m + 1, h, hp => by
    by_cases hm : n = m + 1
    · rw [hm]
    · show isum f p m + (if p m then f m else 0) = _
      rw [hp m (by omega) (Nat.lt_succ_self m), isum_ext m (by omega) (fun k h1 h2 => hp k h1 (by omega))]
      show isum f p n + 0 = _
      simp
theorem isum_congr {f f' : Nat → Int32} {p p' : Nat → Bool} : ∀ {n : Nat}, (∀ k, k < n → p k = p' k ∧ (p k = true → f k = f' k)) → isum f p n = isum f' p' n
  | 0, _ => rfl
  | n + 1, h => by
    show isum f p n + (if p n then f n else 0) = isum f' p' n + (if p' n then f' n else 0)
    rw [isum_congr (fun k hk => h k (Nat.lt_succ_of_lt hk)), ← (h n (Nat.lt_succ_self n)).1]
    cases hp : p n with
    | true => rw [(h n (Nat.lt_succ_self n)).2 hp]
    | false => rfl
theorem c_bit0 {B k : Nat} (hB : B < 256) (hk : k < 8) : ((nI B >>> (nI k &&& 31)) &&& 1 = 0) ↔ B.testBit k = false := by
  rw [sb_of B hB k hk]
  cases B.testBit k <;> decide
def vLoose (V : Nat → Int32) (n k : Nat) : Bool := vIn V k && decide (V (36 + k) &&& nI (bs (vIn V) n) = 0)
theorem mIn_v (h : xH) : mIn h = vIn (mS h) := rfl
theorem mLoose_v (h : xH) (n : Nat) : mLoose h n = vLoose (mS h) n := rfl
section CS
variable {h : xH} {i n : Nat} {V : Nat → Int32}
theorem c_isBit {B : Nat} {x : Int32} (hx : x = nI B) (hB : B < 256) (hn : n ≤ 8) (hb : ∀ k, n ≤ k → B.testBit k = false) (k : Int32) : (if k < 0 then some 0 else if (8 : Int32) ≤ k then some 0 else if (x >>> (k &&& 31)) &&& 1 = 0 then some 0 else some (1 : Int32)) = some (if ∃ j, j < n ∧ k = nI j ∧ B.testBit j = true then 1 else 0) := by
  rcases pk_ix k (n := 8) (by decide) with h1 | h1 | ⟨j, hj, rfl⟩
  · rw [if_pos h1, if_neg]
    rintro ⟨j, h2, h3, -⟩
    rw [h3] at h1
    exact nI_pos (by omega) h1
  · have e : ¬ ∃ j, j < n ∧ k = nI j ∧ B.testBit j = true := by
      rintro ⟨j, h2, h3, -⟩
      rw [h3] at h1
      exact nI_ge (a := j) (b := 8) (by omega) (by decide) h1
    rw [if_neg e]
    split
    · rfl
    · rw [if_pos (show (8 : Int32) ≤ k from h1)]
  · rw [if_neg (nI_pos (by omega)), if_neg (show ¬ (8 : Int32) ≤ nI j from nI_ge (b := 8) hj (by decide)), hx]
    by_cases hz : B.testBit j = true
    · rw [if_neg (by rw [c_bit0 hB hj, hz]; decide), if_pos]
      refine ⟨j, ?_, rfl, hz⟩
      rcases Nat.lt_or_ge j n with q | q
      · exact q
      · rw [hb j q] at hz; cases hz
    · rw [if_pos ((c_bit0 hB hj).mpr (by simpa using hz)), if_neg]
      rintro ⟨j2, h2, h3, h4⟩
      have : j = j2 := (nI_eq (by omega) (by omega)).mp h3
      subst this
      exact hz h4
theorem bs_hi {p : Nat → Bool} {k : Nat} (hk : n ≤ k) : (bs p n).testBit k = false := by
  rw [bs_bit]
  have : ¬ k < n := by omega
  simp [this]
theorem bs_in {p : Nat → Bool} {k : Nat} (hk : k < n) : (bs p n).testBit k = p k := by
  rw [bs_bit]
  simp [hk]
theorem c_isIn_in (hs : stR h i V n) (h8 : n ≤ 8) {j : Nat} (hj : j < n) : f_State_isIn i (nI j) h = some (if vIn V j then 1 else 0) := by
  have := c_isBit hs.2.2.1 (bs_lt8 _ h8) h8 (fun k hk => bs_hi hk) (nI j)
  refine Eq.trans this ?_
  congr 1
  by_cases hv : vIn V j = true
  · rw [if_pos ⟨j, hj, rfl, by rw [bs_in hj]; exact hv⟩, if_pos hv]
  · rw [if_neg, if_neg hv]
    rintro ⟨j2, h2, h3, h4⟩
    have : j = j2 := (nI_eq (by omega) (by omega)).mp h3
    subst this
    rw [bs_in hj] at h4
    exact hv h4
theorem c_isIn_out (hs : stR h i V n) (h8 : n ≤ 8) {k : Int32} (hk : k < 0 ∨ nI n ≤ k) : f_State_isIn i k h = some 0 := by
  have := c_isBit hs.2.2.1 (bs_lt8 _ h8) h8 (fun k hk => bs_hi hk) k
  refine Eq.trans this ?_
  rw [if_neg]
  rintro ⟨j, h2, h3, -⟩
  subst h3
  exact hk.elim (nI_pos (by omega)) (nI_ge h2 (by omega))
theorem c_isLetBe_in (hs : stR h i V n) (h8 : n ≤ 8) {j : Nat} (hj : j < n) : f_State_isLetBe i (nI j) h = some (if vLb V j then 1 else 0) := by
  have := c_isBit hs.2.2.2.1 (bs_lt8 _ h8) h8 (fun k hk => bs_hi hk) (nI j)
  refine Eq.trans this ?_
  congr 1
  by_cases hv : vLb V j = true
  · rw [if_pos ⟨j, hj, rfl, by rw [bs_in hj]; exact hv⟩, if_pos hv]
  · rw [if_neg, if_neg hv]
    rintro ⟨j2, h2, h3, h4⟩
    have : j = j2 := (nI_eq (by omega) (by omega)).mp h3
    subst this
    rw [bs_in hj] at h4
    exact hv h4
theorem c_isLoose_in (hs : stR h i V n) (h8 : n ≤ 8) {j : Nat} (hj : j < n) : f_State_isLoose i (nI j) h = some (if vLoose V n j then 1 else 0) := by
  show (f_State_isIn i (nI j) h).bind _ = _
  rw [c_isIn_in hs h8 hj]
  unfold vLoose
  cases hp : vIn V j with
  | false => rfl
  | true =>
    show (if xib (nI j) 8 then (if h.2.2.2.1 30 i (nI j).toNatClampNeg &&& h.1 6 2 i = 0 then some 1 else some 0) else none) = _
    rw [if_pos (xibN (by omega) (by decide)), nI_clamp (by omega), (hs.2.2.2.2 j hj).2.1, hs.2.2.1]
    by_cases hz : V (36 + j) &&& nI (bs (vIn V) n) = 0 <;> simp [hz]
theorem c_isLoose_out (hs : stR h i V n) (h8 : n ≤ 8) {k : Int32} (hk : k < 0 ∨ nI n ≤ k) : f_State_isLoose i k h = some 0 := by
  show (f_State_isIn i k h).bind _ = _
  rw [c_isIn_out hs h8 hk]
  rfl
theorem c_standing (hs : stR h i V n) (h8 : n ≤ 8) {j : Nat} (hj : j < n) (hv : V (12 + j) = 0 ∨ V (12 + j) = 1 ∨ V (12 + j) = 2) : f_State_standing i (nI j) h = some (V (12 + j)) := by
  show (f_State_isIn i (nI j) h).bind _ = _
  rw [c_isIn_in hs h8 hj]
  have e : ∀ b : Bool, b = vIn V j → (some (if b then 1 else 0 : Int32)).bind (fun r1 => if r1 = 0 then ((f_State_isLetBe i (nI j) h).bind fun r4 => if r4 = 0 then some (2 : Int32) else some 1) else some 0) = some (V (12 + j)) := by
    intro b hb
    rw [c_isLetBe_in hs h8 hj]
    rcases hv with h0 | h0 | h0
    · rw [hb, show vIn V j = true by simp [vIn, h0], h0]; rfl
    · rw [hb, show vIn V j = false by simp [vIn, h0], show vLb V j = true by simp [vLb, h0], h0]; rfl
    · rw [hb, show vIn V j = false by simp [vIn, h0], show vLb V j = false by simp [vLb, h0], h0]; rfl
  exact e _ rfl
theorem c_hasSorrow_in (ht : h.1 8 3 i = nI n) (h8 : n ≤ 8) {j : Nat} (hj : j < n) : f_Told_hasSorrow i (nI j) h = some 1 := by
  show (if nI j < 0 then some 0 else if h.1 8 3 i ≤ nI j then some 0 else if (8 : Int32) ≤ nI j then some 0 else some 1) = some (1 : Int32)
  rw [if_neg (nI_pos (by omega)), ht, if_neg (nI_ge hj (by omega)), if_neg (show ¬ (8 : Int32) ≤ nI j from nI_ge (b := 8) (by omega) (by decide))]
theorem c_hasSorrow_out (ht : h.1 8 3 i = nI n) {k : Int32} (hk : k < 0 ∨ nI n ≤ k) : f_Told_hasSorrow i k h = some 0 := by
  show (if k < 0 then some 0 else if h.1 8 3 i ≤ k then some 0 else if (8 : Int32) ≤ k then some 0 else some 1) = some (0 : Int32)
  by_cases h0 : k < 0
  · rw [if_pos h0]
  · rw [if_neg h0, ht, if_pos (hk.resolve_left h0)]
end CS
variable {Q : xH → Nat → Prop}
/-- sorrow -/
theorem p_sorrow : lI_sorrow (jII Q) := by
  rintro a w h ⟨R, hR, r1, r2, hj, hq⟩
  obtain ⟨n, m, c, hs, -⟩ := hj.2.2.2
  obtain ⟨hv, ht, hst, -⟩ := hs
  obtain ⟨-, -, -, -, v3, n8, -, -, -, -, vk, -⟩ := hv
  have hn : mN h n := ⟨v3, n8⟩
  have t3 : h.1 8 3 0 = nI n := ht.2.2.2.1.trans v3
  show ∃ r, (f_Told_hasSorrow 0 a h).bind _ = some r ∧ (f_M_isSorrow a h).bind _ = some r
  rcases pk_ix a (n := n) (by omega) with h1 | h1 | ⟨j, hj', rfl⟩
  · rw [c_hasSorrow_out t3 (Or.inl h1), m_isSorrow_out hn (Or.inl h1)]
    exact ⟨-2, rfl, rfl⟩
  · rw [c_hasSorrow_out t3 (Or.inr h1), m_isSorrow_out hn (Or.inr h1)]
    exact ⟨-2, rfl, rfl⟩
  · rw [c_hasSorrow_in t3 n8 hj', m_isSorrow_in hn hj']
    have b8 : xib (nI j) 8 := xibN (by omega) (by decide)
    have cj : (nI j).toNatClampNeg = j := nI_clamp (by omega)
    obtain ⟨s1, s2, s3, s4⟩ := hst.2.2.2.2 j hj'
    obtain ⟨u1, u2, u3, u4⟩ := ht.2.2.2.2.2.1 j hj'
    have key : ∀ (k : Nat) (z : Int32), z = nI k → k ≤ 60 → (if xib (z + nI j) 101 then some (h.2.2.2.1 56 0 (z + nI j).toNatClampNeg) else none) = some (mS h (k + j)) := by
      intro k z hz hk
      rw [if_pos (xibA (c := z) (a := k) hz (by omega) (by decide)), ixA (c := z) (a := k) hz (by omega)]
    show ∃ r, (if w = 0 then (if xib (nI j) 8 then some (h.2.2.2.1 31 0 (nI j).toNatClampNeg) else none) else if w = 1 then (if xib (nI j) 8 then some (h.2.2.2.1 32 0 (nI j).toNatClampNeg) else none) else if w = 2 then (if xib (nI j) 8 then some (h.2.2.2.1 39 0 (nI j).toNatClampNeg) else none) else if w = 3 then (f_State_standing 0 (nI j) h).bind (fun r => some r) else if w = 4 then (if xib (nI j) 8 then some (h.2.2.2.1 29 0 (nI j).toNatClampNeg) else none) else if w = 5 then (if xib (nI j) 8 then some (h.2.2.2.1 30 0 (nI j).toNatClampNeg) else none) else some (-2)) = some r ∧ (if w = 0 then (if xib (28 + nI j) 101 then some (h.2.2.2.1 56 0 ((28 : Int32) + nI j).toNatClampNeg) else none) else if w = 1 then (if xib (44 + nI j) 101 then some (h.2.2.2.1 56 0 ((44 : Int32) + nI j).toNatClampNeg) else none) else if w = 2 then (if xib (52 + nI j) 101 then some (h.2.2.2.1 56 0 ((52 : Int32) + nI j).toNatClampNeg) else none) else if w = 3 then (if xib (12 + nI j) 101 then some (h.2.2.2.1 56 0 ((12 : Int32) + nI j).toNatClampNeg) else none) else if w = 4 then (if xib (20 + nI j) 101 then some (h.2.2.2.1 56 0 ((20 : Int32) + nI j).toNatClampNeg) else none) else if w = 5 then (if xib (36 + nI j) 101 then some (h.2.2.2.1 56 0 ((36 : Int32) + nI j).toNatClampNeg) else none) else some (-2)) = some r
    rw [key 28 28 rfl (by decide), key 44 44 rfl (by decide), key 52 52 rfl (by decide), key 12 12 rfl (by decide), key 20 20 rfl (by decide), key 36 36 rfl (by decide), if_pos b8, if_pos b8, if_pos b8, if_pos b8, if_pos b8, cj, s1, s2, s3, s4, u3, c_standing hst n8 hj' (vk j hj').1]
    by_cases w0 : w = 0
    · exact ⟨_, by rw [if_pos w0], by rw [if_pos w0]⟩
    by_cases w1 : w = 1
    · exact ⟨_, by rw [if_neg w0, if_pos w1], by rw [if_neg w0, if_pos w1]⟩
    by_cases w2 : w = 2
    · exact ⟨_, by rw [if_neg w0, if_neg w1, if_pos w2], by rw [if_neg w0, if_neg w1, if_pos w2]⟩
    by_cases w3 : w = 3
    · exact ⟨_, by rw [if_neg w0, if_neg w1, if_neg w2, if_pos w3]; rfl, by rw [if_neg w0, if_neg w1, if_neg w2, if_pos w3]⟩
    by_cases w4 : w = 4
    · exact ⟨_, by rw [if_neg w0, if_neg w1, if_neg w2, if_neg w3, if_pos w4], by rw [if_neg w0, if_neg w1, if_neg w2, if_neg w3, if_pos w4]⟩
    by_cases w5 : w = 5
    · exact ⟨_, by rw [if_neg w0, if_neg w1, if_neg w2, if_neg w3, if_neg w4, if_pos w5], by rw [if_neg w0, if_neg w1, if_neg w2, if_neg w3, if_neg w4, if_pos w5]⟩
    · exact ⟨_, by rw [if_neg w0, if_neg w1, if_neg w2, if_neg w3, if_neg w4, if_neg w5], by rw [if_neg w0, if_neg w1, if_neg w2, if_neg w3, if_neg w4, if_neg w5]⟩
