/-! PURE: one lifted, class and reference -/
theorem bs_clr {p q : Nat → Bool} {j : Nat} (hp : p j = true) (hq : q j = false) : ∀ {n : Nat}, (∀ k, k < n → k ≠ j → q k = p k) → bs q n = if j < n then bs p n - 2 ^ j else bs p n
  | 0, _ => rfl
  | n + 1, h => by
    have ih := bs_clr hp hq (n := n) (fun k hk hn => h k (by omega) hn)
    show bs q n + (if q n then 2 ^ n else 0) = if j < n + 1 then bs p n + (if p n then 2 ^ n else 0) - 2 ^ j else bs p n + (if p n then 2 ^ n else 0)
    rw [ih]
    by_cases hn : n = j
    · subst hn
      rw [if_neg (Nat.lt_irrefl n), if_pos (Nat.lt_succ_self n), hp, hq]
      simp
    · rw [h n (by omega) hn]
      by_cases hj : j < n
      · have hb : 2 ^ j ≤ bs p n := Nat.ge_two_pow_of_testBit (by rw [bs_bit]; simp [hj, hp])
        rw [if_pos hj, if_pos (show j < n + 1 by omega)]
        exact (Nat.sub_add_comm hb).symm
      · rw [if_neg hj, if_neg (show ¬ j < n + 1 by omega)]
theorem bs_set {p q : Nat → Bool} {j : Nat} (hp : p j = false) (hq : q j = true) : ∀ {n : Nat}, (∀ k, k < n → k ≠ j → q k = p k) → bs q n = if j < n then bs p n + 2 ^ j else bs p n
  | 0, _ => rfl
  | n + 1, h => by
    have ih := bs_set hp hq (n := n) (fun k hk hn => h k (by omega) hn)
    show bs q n + (if q n then 2 ^ n else 0) = if j < n + 1 then bs p n + (if p n then 2 ^ n else 0) + 2 ^ j else bs p n + (if p n then 2 ^ n else 0)
    rw [ih]
    by_cases hn : n = j
    · subst hn
      rw [if_neg (Nat.lt_irrefl n), if_pos (Nat.lt_succ_self n), hp, hq]
      simp
    · rw [h n (by omega) hn]
      by_cases hj : j < n
      · rw [if_pos hj, if_pos (show j < n + 1 by omega)]
        omega
      · rw [if_neg hj, if_neg (show ¬ j < n + 1 by omega)]
theorem sb_clr : ∀ B, B < 256 → ∀ k, k < 8 → B.testBit k = true → nI B &&& (((1 : Int32) <<< (nI k &&& 31)) ^^^ (-1 : Int32)) = nI (B - 2 ^ k) := by decide +kernel
theorem sb_set : ∀ B, B < 256 → ∀ k, k < 8 → B.testBit k = false → nI B ||| ((1 : Int32) <<< (nI k &&& 31)) = nI (B + 2 ^ k) := by decide +kernel
/-- the time behind a lift, what is said behind it -/
def liT (V : Nat → Int32) (j : Nat) : Int32 := if V 10 + V (44 + j) ≤ 9999 then V 10 + V (44 + j) else 9999
def liV (V : Nat → Int32) (j : Nat) : Nat → Int32 := upd (upd (upd V 10 (liT V j)) (12 + j) (if V 1 < liT V j then 2 else 1)) (20 + j) (liT V j)
theorem liT_n {V : Nat → Int32} {j z y : Nat} (h1 : V 10 = nI z) (hz : z ≤ 9999) (h2 : V (44 + j) = nI y) (hy : y ≤ 40) : liT V j = nI (min 9999 (z + y)) := by
  unfold liT
  rw [h1, h2, nI_add]
  by_cases q : z + y ≤ 9999
  · rw [if_pos (show nI (z + y) ≤ (9999 : Int32) from (nI_le q (by decide) : nI (z + y) ≤ nI 9999)), Nat.min_eq_right q]
  · rw [if_neg (show ¬ nI (z + y) ≤ (9999 : Int32) from (nI_ge (by omega) (by omega) : ¬ nI (z + y) ≤ nI 9999)), Nat.min_eq_left (by omega)]
    rfl
theorem liV_o {V : Nat → Int32} {j t : Nat} (h1 : t ≠ 10) (h2 : t ≠ 12 + j) (h3 : t ≠ 20 + j) : liV V j t = V t := by
  unfold liV
  rw [pk_un h3, pk_un h2, pk_un h1]
theorem liV_10 {V : Nat → Int32} {j : Nat} : liV V j 10 = liT V j := by
  unfold liV
  rw [pk_un (by omega), pk_un (by omega), pk_us]
theorem liV_12 {V : Nat → Int32} {j : Nat} (hj : j < 8) : liV V j (12 + j) = if V 1 < liT V j then 2 else 1 := by
  unfold liV
  rw [pk_un (by omega), pk_us]
theorem liV_20 {V : Nat → Int32} {j : Nat} : liV V j (20 + j) = liT V j := by
  unfold liV
  rw [pk_us]
theorem m_lifts {h : xH} {j : Nat} (hj : j < 8) : f_M_lifts (nI j) h = some (xsA h 56 0 (liV (mS h) j)) := by
  have x44 : xib ((44 : Int32) + nI j) 101 := xibA (c := 44) (a := 44) rfl (by omega) (by decide)
  have c44 : ((44 : Int32) + nI j).toNatClampNeg = 44 + j := ixA (c := 44) (a := 44) rfl (by omega)
  have x12 : xib ((12 : Int32) + nI j) 101 := xibA (c := 12) (a := 12) rfl (by omega) (by decide)
  have c12 : ((12 : Int32) + nI j).toNatClampNeg = 12 + j := ixA (c := 12) (a := 12) rfl (by omega)
  have x20 : xib ((20 : Int32) + nI j) 101 := xibA (c := 20) (a := 20) rfl (by omega) (by decide)
  have c20 : ((20 : Int32) + nI j).toNatClampNeg = 20 + j := ixA (c := 20) (a := 20) rfl (by omega)
  have x10 : xib (10 : Int32) 101 := xibN (j := 10) (n := 101) (by decide) (by decide)
  have eg : f_M_goesBy (mS h (44 + j)) h = some (xsA h 56 0 (upd (mS h) 10 (liT (mS h) j))) := by
    show (if mS h 10 + mS h (44 + j) ≤ 9999 then (if xib 10 101 then some (xsA h 56 0 (upd (mS h) 10 (mS h 10 + mS h (44 + j)))) else none) else (if xib 10 101 then some (xsA h 56 0 (upd (mS h) 10 9999)) else none)) = _
    unfold liT
    by_cases q : mS h 10 + mS h (44 + j) ≤ 9999
    · rw [if_pos q, if_pos q, if_pos x10]
    · rw [if_neg q, if_neg q, if_pos x10]
  have eb : ∀ t, f_M_lifts_b42 (nI j) t (12 + nI j) (xsA h 56 0 (upd (mS h) 10 (liT (mS h) j))) = some (xsA h 56 0 (upd (upd (upd (mS h) 10 (liT (mS h) j)) (12 + j) t) (20 + j) (liT (mS h) j))) := by
    intro t
    show (if xib ((12 : Int32) + nI j) 101 then (if xib ((20 : Int32) + nI j) 101 then some (xsA (xsA (xsA h 56 0 (upd (mS h) 10 (liT (mS h) j))) 56 0 (upd ((xsA h 56 0 (upd (mS h) 10 (liT (mS h) j))).2.2.2.1 56 0) ((12 : Int32) + nI j).toNatClampNeg t)) 56 0 (upd ((xsA (xsA h 56 0 (upd (mS h) 10 (liT (mS h) j))) 56 0 (upd ((xsA h 56 0 (upd (mS h) 10 (liT (mS h) j))).2.2.2.1 56 0) ((12 : Int32) + nI j).toNatClampNeg t)).2.2.2.1 56 0) ((20 : Int32) + nI j).toNatClampNeg ((xsA (xsA h 56 0 (upd (mS h) 10 (liT (mS h) j))) 56 0 (upd ((xsA h 56 0 (upd (mS h) 10 (liT (mS h) j))).2.2.2.1 56 0) ((12 : Int32) + nI j).toNatClampNeg t)).2.2.2.1 56 0 10))) else none) else none) = _
    rw [if_pos x12, if_pos x20, c12, c20, xsA_2, xsA_2, rdA_s, rdA_s, pk_un (f := upd (mS h) 10 (liT (mS h) j)) (j := 10) (by omega), pk_us]
  show (if xib ((44 : Int32) + nI j) 101 then (f_M_goesBy (mS h ((44 : Int32) + nI j).toNatClampNeg) h).bind (fun h4 => if mS h4 1 < mS h4 10 then f_M_lifts_b42 (nI j) 2 (12 + nI j) h4 else f_M_lifts_b42 (nI j) 1 (12 + nI j) h4) else none) = _
  rw [if_pos x44, c44, eg]
  have m4 : mS (xsA h 56 0 (upd (mS h) 10 (liT (mS h) j))) = upd (mS h) 10 (liT (mS h) j) := rdA_s
  show (if mS (xsA h 56 0 (upd (mS h) 10 (liT (mS h) j))) 1 < mS (xsA h 56 0 (upd (mS h) 10 (liT (mS h) j))) 10 then f_M_lifts_b42 (nI j) 2 (12 + nI j) (xsA h 56 0 (upd (mS h) 10 (liT (mS h) j))) else f_M_lifts_b42 (nI j) 1 (12 + nI j) (xsA h 56 0 (upd (mS h) 10 (liT (mS h) j)))) = _
  rw [eb, eb, m4, pk_us, pk_un (by decide)]
  unfold liV
  by_cases q : mS h 1 < liT (mS h) j
  · rw [if_pos q, if_pos q]
  · rw [if_neg q, if_neg q]
