/-! PURE: draws, and the one in that place of a set -/
theorem lN_divB {a d : Nat} (ha : a < 2 ^ 63) (h0 : 0 < d) (hd : d < 2 ^ 63) : lN a / lN d = lN (a / d) := by
  have ea : (lN a).toInt = (a : Int) := lg_ofNat_toInt ha
  have ed : (lN d).toInt = (d : Int) := lg_ofNat_toInt hd
  have eq : (lN (a / d)).toInt = ((a / d : Nat) : Int) := lg_ofNat_toInt (Nat.lt_of_le_of_lt (Nat.div_le_self a d) ha)
  apply Int64.toInt_inj.mp
  rw [lg_ldiv_nonneg (by rw [ea]; omega) (by rw [ed]; omega), ea, ed, eq]
  first | rfl | exact (Int.natCast_ediv _ _).symm
theorem lN_remB {a d : Nat} (ha : a < 2 ^ 63) (h0 : 0 < d) (hd : d < 2 ^ 63) : lN a - lN a / lN d * lN d = lN (a % d) := by
  rw [lN_divB ha h0 hd, lN_mul, lN_sub (Nat.div_mul_le_self a d)]
  exact congrArg lN (by have := Nat.div_add_mod' a d; omega)
theorem lN_mask {a : Nat} (ha : a < 2 ^ 63) : lN a &&& (2147483647 : Int64) = lN (a % 2147483648) := by
  apply Int64.toBitVec_inj.mp
  apply BitVec.eq_of_toNat_eq
  have e1 : (lN a).toBitVec.toNat = a := Nat.mod_eq_of_lt (show a < 2 ^ 64 by omega)
  have e2 : (lN (a % 2147483648)).toBitVec.toNat = a % 2147483648 := Nat.mod_eq_of_lt (show a % 2147483648 < 2 ^ 64 by omega)
  have e3 : (2147483647 : Int64).toBitVec.toNat = 2 ^ 31 - 1 := by decide
  rw [Int64.toBitVec_and, BitVec.toNat_and, e1, e2, e3, Nat.and_two_pow_sub_one_eq_mod]
/-- x behind a draw -/
def drX (X : Nat) : Nat := (X * 1103515245 + 12345) % 2147483648
theorem drX_lt (X : Nat) : drX X < 2147483648 := Nat.mod_lt _ (by decide)
theorem c_drX {X : Nat} (hX : X < 2147483648) : ((((nI X).toInt64) * (1103515245 : Int64)) + (12345 : Int64) &&& (2147483647 : Int64)).toInt32 = nI (drX X) := by
  have e : ((nI X).toInt64) * (1103515245 : Int64) + (12345 : Int64) = lN (X * 1103515245 + 12345) := by
    rw [nI_l (by omega), show (1103515245 : Int64) = lN 1103515245 from rfl, show (12345 : Int64) = lN 12345 from rfl, lN_mul, lN_add]
  rw [e, lN_mask (by omega), lN_i]
  rfl
theorem m_drX {X : Nat} (hX : X < 2147483648) : ((lN X) * (1103515245 : Int64) + (12345 : Int64)) - ((lN X) * (1103515245 : Int64) + (12345 : Int64)) / (2147483648 : Int64) * (2147483648 : Int64) = lN (drX X) := by
  have e : (lN X) * (1103515245 : Int64) + (12345 : Int64) = lN (X * 1103515245 + 12345) := by
    rw [show (1103515245 : Int64) = lN 1103515245 from rfl, show (12345 : Int64) = lN 12345 from rfl, lN_mul, lN_add]
  rw [e, show (2147483648 : Int64) = lN 2147483648 from rfl, lN_remB (by omega) (by decide) (by decide)]
  rfl
/-- the place drawn -/
def drD (X L : Nat) : Nat := (X / 65536) % pc L
theorem c_drD {X L : Nat} (hX : X < 2147483648) (hL : L < 256) (h0 : 0 < pc L) : ((nI X / (65536 : Int32)) - (nI X / (65536 : Int32)) / nI (pc L) * nI (pc L)) = nI (drD X L) := by
  have p8 := pc_le L hL
  rw [show (65536 : Int32) = nI 65536 from rfl, pk_div (by omega) (by decide) (by decide), pk_rem (by omega) h0 (by omega)]
  rfl
theorem m_drD {X L : Nat} (hX : X < 2147483648) (hL : L < 256) (h0 : 0 < pc L) : ((lN X / (65536 : Int64)) - (lN X / (65536 : Int64)) / ((nI (pc L)).toInt64) * ((nI (pc L)).toInt64)).toInt32 = nI (drD X L) := by
  have p8 := pc_le L hL
  rw [nI_l (by omega), show (65536 : Int64) = lN 65536 from rfl, lN_divB (by omega) (by decide) (by decide), lN_remB (by omega) h0 (by omega), lN_i]
  rfl
theorem rdL_s {h : xH} {c k i : Nat} {v : Int64} : (xsL h c k i v).2.1 c k i = v := by
  show xw h.2.1 c k (vp_updL (h.2.1 c k) i v) c k i = v
  rw [xw_s]
  exact uL_s
theorem m_draw {h : xH} {X L : Nat} (e : h.2.1 12 36 0 = lN X) (hX : X < 2147483648) (hL : L < 256) (h0 : 0 < pc L) : f_M_draw (nI (pc L)) h = some (nI (drD (drX X) L), xsL h 12 36 0 (lN (drX X))) := by
  have p8 := pc_le L hL
  have cl : f_M_draw (nI (pc L)) h = xlet (xsL h 12 36 0 ((h.2.1 12 36 0 * (1103515245 : Int64) + (12345 : Int64)) - (h.2.1 12 36 0 * (1103515245 : Int64) + (12345 : Int64)) / (2147483648 : Int64) * (2147483648 : Int64))) (fun h1 => if ¬ (nI (pc L)).toInt64 = 0 then some (((h1.2.1 12 36 0 / (65536 : Int64)) - (h1.2.1 12 36 0 / (65536 : Int64)) / ((nI (pc L)).toInt64) * ((nI (pc L)).toInt64)).toInt32, h1) else none) := rfl
  have ne : ¬ (nI (pc L)).toInt64 = 0 := by
    rw [nI_l (by omega), show (0 : Int64) = lN 0 from rfl]
    exact fun z => absurd ((lN_eq (by omega) (by decide)).mp z) (by omega)
  rw [cl, e, m_drX hX, xlet_e, if_pos ne, rdL_s, m_drD (drX_lt X) hL h0]
/-! the one in that place -/
def rmv (L : Nat) : Nat → Nat
  | 0 => L
  | d + 1 => rmv L d &&& (rmv L d - 1)
def nthN (L d : Nat) : Nat := tzN (rmv L d)
def cnN (L k : Nat) : Nat := fold (fun j c => if L.testBit j then c + 1 else c) 0 k
theorem nth_e1 : ∀ L, L < 256 → ∀ d, d < 8 → d < pc L → (nthN L d < 8 ∧ L.testBit (nthN L d) = true ∧ cnN L (nthN L d) = d) := by decide +kernel
theorem nth_e2 : ∀ L, L < 256 → ∀ d, d < 8 → ∀ j, j < 8 → (d < pc L ∧ j < nthN L d ∧ L.testBit j = true) → cnN L j < d := by decide +kernel
theorem nth_e3 : ∀ L, L < 256 → ∀ d, d < 8 → d < pc L → (rmv L d ≠ 0 ∧ rmv L d < 256) := by decide +kernel
theorem nth_e (L : Nat) (hL : L < 256) (d : Nat) (h8 : d < 8) (hd : d < pc L) : nthN L d < 8 ∧ L.testBit (nthN L d) = true ∧ cnN L (nthN L d) = d ∧ (∀ j, j < 8 → j < nthN L d → L.testBit j = true → cnN L j < d) ∧ rmv L d ≠ 0 ∧ rmv L d < 256 := ⟨(nth_e1 L hL d h8 hd).1, (nth_e1 L hL d h8 hd).2.1, (nth_e1 L hL d h8 hd).2.2, fun j a b c => nth_e2 L hL d h8 j a ⟨hd, b, c⟩, nth_e3 L hL d h8 hd⟩
theorem m_nthOf {h : xH} {L d : Nat} (hL : L < 256) (hd : d < pc L) : f_M_nthOf (nI L) (nI d) h = some (nI (nthN L d)) := by
  have p8 := pc_le L hL
  obtain ⟨a1, a2, a3, a4, -⟩ := nth_e L hL d (by omega) hd
  have cs : ∀ j, cnN L (j + 1) = if L.testBit j then cnN L j + 1 else cnN L j := fun _ => rfl
  have le : ∀ j, j ≤ nthN L d → cnN L j ≤ d := by
    intro j
    induction j with
    | zero => intro _; exact Nat.zero_le _
    | succ j ih =>
      intro hj
      rw [cs j]
      cases hb : L.testBit j with
      | false => exact ih (by omega)
      | true =>
        have := a4 j (by omega) (by omega) hb
        show cnN L j + 1 ≤ d
        omega
  have e0 : ((0 : Int32), nI d) = (fun j => (nI j, nI (d - cnN L j))) 0 := by
    show ((0 : Int32), nI d) = (nI 0, nI (d - 0))
    rw [nI_0, Nat.sub_zero]
  show whl (fun s => f_M_nthOf_s4 (nI L) s.1 s.2 h) ((0 : Int32), nI d) = _
  rw [e0]
  refine whl_cnt (nthN L d) (fun j => (nI j, nI (d - cnN L j))) _ (fun j hj => ?_) ?_
  · show f_M_nthOf_s4 (nI L) (nI j) (nI (d - cnN L j)) h = some (Sum.inl (nI (j + 1), nI (d - cnN L (j + 1))))
    have j8 : j < 8 := by omega
    have l1 := le (j + 1) (by omega)
    unfold f_M_nthOf_s4 f_M_nthOf_b16
    rw [m_isOf hL j8, Option.bind_some, Option.bind_some]
    rw [cs j] at l1 ⊢
    cases hb : L.testBit j with
    | false =>
      show some (Sum.inl (nI j + 1, nI (d - cnN L j) - 0)) = some (Sum.inl (nI (j + 1), nI (d - cnN L j)))
      rw [Int32.sub_zero, nI_1]
    | true =>
      have l2 := a4 j j8 hj hb
      show (if nI (d - cnN L j) ≤ 0 then some (Sum.inr (nI j)) else some (Sum.inl (nI j + 1, nI (d - cnN L j) - 1))) = some (Sum.inl (nI (j + 1), nI (d - (cnN L j + 1))))
      rw [if_neg (nI_nle (by omega) (by omega)), nI_1, show d - cnN L j = (d - (cnN L j + 1)) + 1 by omega, nI_pred]
  · show f_M_nthOf_s4 (nI L) (nI (nthN L d)) (nI (d - cnN L (nthN L d))) h = _
    unfold f_M_nthOf_s4
    rw [m_isOf hL a1, Option.bind_some, a2, a3, Nat.sub_self]
    rfl
theorem c_draws58 {h : xH} {L d : Nat} {v2 v3 : Int32} {x : (Int32 × Int32 × xH) ⊕ (Int32 × xH)} (hL : L < 256) (hd : d < pc L) (hx : f_Walk_goByDraws_b78 v2 v3 (nI (rmv L d)) h = some x) : f_Walk_goByDraws_l58 v2 v3 (nI L) (nI d) h = some x := by
  have p8 := pc_le L hL
  refine whl_cnt (step := fun s => f_Walk_goByDraws_s58 v2 v3 s.1 s.2 h) d (fun j => (nI (rmv L j), nI (d - j))) x (fun j hj => ?_) ?_
  · show f_Walk_goByDraws_s58 v2 v3 (nI (rmv L j)) (nI (d - j)) h = some (Sum.inl (nI (rmv L j &&& (rmv L j - 1)), nI (d - (j + 1))))
    obtain ⟨-, -, -, -, r0, r8⟩ := nth_e L hL j (by omega) (by omega)
    unfold f_Walk_goByDraws_s58
    rw [if_neg (nI_nle (by omega) (by omega)), (bt_step _ r8 r0).1, show d - j = (d - (j + 1)) + 1 by omega, pk_m1]
    rfl
  · show f_Walk_goByDraws_s58 v2 v3 (nI (rmv L d)) (nI (d - d)) h = _
    unfold f_Walk_goByDraws_s58
    rw [Nat.sub_self, if_pos (show nI 0 ≤ 0 by decide), hx]
    rfl
