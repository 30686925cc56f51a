/-! PURE: rings, of the reference and of the class -/
theorem sb_bit : ∀ B, B < 256 → ∀ k, k < 8 → nI B &&& ((1 : Int32) <<< (nI k &&& 31)) = if B.testBit k = true then ((1 : Int32) <<< (nI k &&& 31)) else 0 := by decide +kernel
theorem rf_lt {U : Nat → Nat} {S B : Nat} (hS : S < 256) (hB : B < 256) (o : Nat) : fold (rfF U S) B o < 256 := rfO_lt (U := U) hS o hB
theorem m_ringsIn51 {h : xH} {n S B : Nat} {U : Nat → Nat} (hn : mN h n) (hU : ∀ k, k < n → mS h (36 + k) = nI (U k) ∧ U k < 256) (hS : S < 256) (hB : B < 256) (v2 v3 v5 : Int32) : f_M_ringsIn_l51 (nI S) v2 v3 (nI B) v5 0 h = some (Sum.inl (nI (rfO U S n B), v5 + 1)) := by
  have h8 := hn.2
  have e3 : h.2.2.2.1 56 0 ((3 : Int32)).toNatClampNeg = nI n := hn.1
  refine whl_cnt (step := fun s => f_M_ringsIn_s51 (nI S) v2 v3 s.1 v5 s.2 h) n (fun o => (nI (fold (rfF U S) B o), nI o)) _ (fun o ho => ?_) ?_
  · show f_M_ringsIn_s51 (nI S) v2 v3 (nI (fold (rfF U S) B o)) v5 (nI o) h = some (Sum.inl (nI (rfF U S o (fold (rfF U S) B o)), nI (o + 1)))
    have hb := rf_lt (U := U) hS hB o
    generalize fold (rfF U S) B o = C at hb ⊢
    unfold f_M_ringsIn_s51 rfF
    rw [e3, if_neg (nI_ge ho (by omega)), m_isOf hb (by omega), Option.bind_some]
    by_cases hc : C.testBit o = true
    · rw [if_pos hc, if_neg (by decide), if_pos (xibA (c := 36) (a := 36) rfl (by omega) (by decide)), ixA (c := 36) (a := 36) rfl (by omega), show h.2.2.2.1 56 0 (36 + o) = nI (U o) from (hU o ho).1, sb_and _ (hU o ho).2 _ hS, sb_or _ hb _ (and_lt8 hS), if_pos hc, ← nI_1]
      rfl
    · rw [if_neg hc, if_pos rfl, if_neg hc, ← nI_1]
      rfl
  · show f_M_ringsIn_s51 (nI S) v2 v3 _ v5 (nI n) h = _
    unfold f_M_ringsIn_s51
    rw [e3, if_pos (Int32.le_refl _)]
    rfl
theorem m_ringsIn41 {h : xH} {n S k : Nat} {U : Nat → Nat} (hn : mN h n) (hU : ∀ k, k < n → mS h (36 + k) = nI (U k) ∧ U k < 256) (hS : S < 256) (hk : k < 8) (v2 : Int32) : f_M_ringsIn_l41 (nI S) v2 (nI k) (nI (U k &&& S)) 0 h = some (Sum.inl (if (rfG U S n k 8).testBit k = true then v2 ||| ((1 : Int32) <<< (nI k &&& 31)) else v2, nI (k + 1))) := by
  refine whl_cnt (step := fun s => f_M_ringsIn_s41 (nI S) v2 (nI k) s.1 s.2 h) 8 (fun t => (nI (rfG U S n k t), nI t)) _ (fun t ht => ?_) ?_
  · show f_M_ringsIn_s41 (nI S) v2 (nI k) (nI (rfG U S n k t)) (nI t) h = some (Sum.inl (nI (rfO U S n (rfG U S n k t)), nI (t + 1)))
    unfold f_M_ringsIn_s41
    rw [if_neg (show ¬ (8 : Int32) ≤ nI t from nI_ge (b := 8) ht (by decide)), m_ringsIn51 hn hU hS (rfG_lt hS t), ← nI_1]
  · show f_M_ringsIn_s41 (nI S) v2 (nI k) (nI (rfG U S n k 8)) (nI 8) h = _
    unfold f_M_ringsIn_s41 f_M_ringsIn_b101
    rw [if_pos (show (8 : Int32) ≤ nI 8 by decide), m_isOf (rfG_lt hS 8) hk, Option.bind_some, ← nI_1]
    split
    · rfl
    · rfl
theorem m_ringsIn {h : xH} {n S : Nat} {U : Nat → Nat} (hn : mN h n) (hU : ∀ k, k < n → mS h (36 + k) = nI (U k) ∧ U k < 256) (hS : S < 256) : f_M_ringsIn (nI S) h = some (nI (rgB U S n)) := by
  have h8 := hn.2
  have e3 : h.2.2.2.1 56 0 ((3 : Int32)).toNatClampNeg = nI n := hn.1
  refine whl_cnt (step := fun s => f_M_ringsIn_s4 (nI S) s.1 s.2 h) n (fun k => (nI (bs (fun k => S.testBit k && (rfG U S n k 8).testBit k) k), nI k)) _ (fun k hk => ?_) ?_
  · show f_M_ringsIn_s4 (nI S) (nI (bs (fun k => S.testBit k && (rfG U S n k 8).testBit k) k)) (nI k) h = some (Sum.inl (nI (bs (fun k => S.testBit k && (rfG U S n k 8).testBit k) k + (if (S.testBit k && (rfG U S n k 8).testBit k) then 2 ^ k else 0)), nI (k + 1)))
    have hb := bs_lt (fun k => S.testBit k && (rfG U S n k 8).testBit k) k
    generalize bs (fun k => S.testBit k && (rfG U S n k 8).testBit k) k = C at hb ⊢
    unfold f_M_ringsIn_s4
    rw [e3, if_neg (nI_ge hk (by omega)), m_isOf hS (by omega), Option.bind_some]
    by_cases hc : S.testBit k = true
    · rw [if_pos hc, if_neg (by decide), if_pos (xibA (c := 36) (a := 36) rfl (by omega) (by decide)), ixA (c := 36) (a := 36) rfl (by omega), show h.2.2.2.1 56 0 (36 + k) = nI (U k) from (hU k hk).1, sb_and _ (hU k hk).2 _ hS, xlet_e, m_ringsIn41 hn hU hS (by omega), hc]
      by_cases hd : (rfG U S n k 8).testBit k = true
      · rw [if_pos hd, sb_or1 k (by omega) C hb, hd]
        rfl
      · rw [if_neg hd, show (rfG U S n k 8).testBit k = false from eq_false_of_ne_true hd]
        rfl
    · rw [if_neg hc, if_pos rfl, show S.testBit k = false from eq_false_of_ne_true hc, ← nI_1]
      rfl
  · show f_M_ringsIn_s4 (nI S) _ (nI n) h = _
    unfold f_M_ringsIn_s4
    rw [e3, if_pos (Int32.le_refl _)]
    rfl
theorem c_has {h : xH} {B k : Nat} (hB : B < 256) (hk : k < 8) : f_Sets_has (nI B) (nI k) h = some (if B.testBit k = true then 1 else 0) := by
  show (if ((nI B >>> (nI k &&& 31)) &&& 1) = 0 then some 0 else some (1 : Int32)) = _
  by_cases hc : B.testBit k = true
  · rw [if_neg (fun z => by rw [(c_bit0 hB hk).mp z] at hc; cases hc), if_pos hc]
  · rw [if_pos ((c_bit0 hB hk).mpr (eq_false_of_ne_true hc)), if_neg hc]
/-- a row of sets over what was there -/
def arS (A : Nat → Int32) (r : Nat → Nat) (m : Nat) : Nat → Int32 := fun i => if i < m then nI (r i) else A i
theorem arS_0 {A : Nat → Int32} {r : Nat → Nat} : arS A r 0 = A := rfl
theorem arS_s {A : Nat → Int32} {r : Nat → Nat} {k : Nat} : upd (arS A r k) k (nI (r k)) = arS A r (k + 1) := by
  funext i
  by_cases hi : i = k
  · subst hi
    rw [pk_us]
    exact (if_pos (by omega)).symm
  · rw [pk_un hi]
    unfold arS
    by_cases h1 : i < k
    · rw [if_pos h1, if_pos (by omega)]
    · rw [if_neg h1, if_neg (by omega)]
theorem arS_in {A : Nat → Int32} {r : Nat → Nat} {m i : Nat} (hi : i < m) : arS A r m i = nI (r i) := if_pos hi
theorem arS_c {A : Nat → Int32} {r r' : Nat → Nat} {m : Nat} (h : ∀ i, i < m → r i = r' i) : arS A r m = arS A r' m := by
  funext i
  unfold arS
  split
  · next hi => rw [h i hi]
  · rfl
theorem arS_u {A : Nat → Int32} {r : Nat → Nat} {m k x : Nat} (hk : k < m) : upd (arS A r m) k (nI x) = arS A (fun i => if i = k then x else r i) m := by
  funext i
  by_cases hi : i = k
  · subst hi
    rw [pk_us, arS_in hk, if_pos rfl]
  · rw [pk_un hi]
    show (if i < m then nI (r i) else A i) = if i < m then nI (if i = k then x else r i) else A i
    rw [if_neg hi]
theorem wrV_v {v : Nat} {r : Nat → Nat} : wrV v r v = r v := by
  unfold wrV
  split
  · exact Nat.or_self _
  · rfl
/-- rows up to k are gone through -/
def wrK (v : Nat) (r : Nat → Nat) (k : Nat) : Nat → Nat := fun i => if i < k then wrV v r i else r i
theorem c_rings48 {h : xH} {v : Nat} {A : Nat → Int32} {r : Nat → Nat} (i2 : Nat) (hv : v < 8) (hr : ∀ i, r i < 256) : f_Sets_ringsAmong_30_l48 i2 (nI v) 0 (xsA h 28 0 (arS A r 8)) = some (Sum.inl (nI (v + 1), xsA h 28 0 (arS A (wrV v r) 8))) := by
  have e0 : ((0 : Int32), xsA h 28 0 (arS A r 8)) = (fun k => (nI k, xsA h 28 0 (arS A (wrK v r k) 8))) 0 := by
    show _ = (nI 0, xsA h 28 0 (arS A (wrK v r 0) 8))
    rw [nI_0]
    rfl
  show whl (fun s => f_Sets_ringsAmong_30_s48 i2 (nI v) s.1 s.2) ((0 : Int32), xsA h 28 0 (arS A r 8)) = _
  rw [e0]
  refine whl_cnt 8 (fun k => (nI k, xsA h 28 0 (arS A (wrK v r k) 8))) _ (fun k hk => ?_) ?_
  · show f_Sets_ringsAmong_30_s48 i2 (nI v) (nI k) (xsA h 28 0 (arS A (wrK v r k) 8)) = some (Sum.inl (nI (k + 1), xsA h 28 0 (arS A (wrK v r (k + 1)) 8)))
    have rk : wrK v r k k = r k := if_neg (by omega)
    have rv : wrK v r k v = r v := by
      unfold wrK
      split
      · exact wrV_v
      · rfl
    have eh : f_Sets_has ((xsA h 28 0 (arS A (wrK v r k) 8)).2.2.2.1 28 0 (nI k).toNatClampNeg) (nI v) (xsA h 28 0 (arS A (wrK v r k) 8)) = some (if (r k).testBit v = true then 1 else 0) := by
      rw [rdA_s, nI_clamp (by omega), arS_in hk, rk, c_has (hr k) hv]
    unfold f_Sets_ringsAmong_30_s48
    rw [if_neg (show ¬ (8 : Int32) ≤ nI k from nI_ge (b := 8) hk (by decide)), if_pos (xibN hk (by decide)), eh, Option.bind_some]
    by_cases hc : (r k).testBit v = true
    · rw [if_pos hc, if_neg (by decide), if_pos (xibN hk (by decide)), if_pos (xibN hv (by decide)), if_pos (xibN hk (by decide)), rdA_s, nI_clamp (show k < 2 ^ 31 by omega), nI_clamp (show v < 2 ^ 31 by omega), arS_in hk, rk, arS_in hv, rv, sb_or _ (hr k) _ (hr v), xsA_2, arS_u hk, ← nI_1]
      rw [arS_c (r' := wrK v r (k + 1)) (fun i hi => ?_)]
      · rfl
      · unfold wrK
        by_cases hik : i = k
        · subst hik
          rw [if_pos rfl, if_pos (by omega)]
          exact (if_pos hc).symm
        · rw [if_neg hik]
          by_cases h1 : i < k
          · rw [if_pos h1, if_pos (by omega)]
          · rw [if_neg h1, if_neg (by omega)]
    · rw [if_neg hc, if_pos rfl, ← nI_1]
      rw [arS_c (r' := wrK v r (k + 1)) (fun i hi => ?_)]
      · rfl
      · unfold wrK
        by_cases hik : i = k
        · subst hik
          rw [if_neg (by omega), if_pos (by omega)]
          exact (if_neg hc).symm
        · by_cases h1 : i < k
          · rw [if_pos h1, if_pos (by omega)]
          · rw [if_neg h1, if_neg (by omega)]
  · show f_Sets_ringsAmong_30_s48 i2 (nI v) (nI 8) (xsA h 28 0 (arS A (wrK v r 8) 8)) = _
    unfold f_Sets_ringsAmong_30_s48
    rw [if_pos (show (8 : Int32) ≤ nI 8 by decide), arS_c (r := wrK v r 8) (r' := wrV v r) (fun i hi => if_pos hi), ← nI_1]
    rfl
theorem c_rings102 {h : xH} {A : Nat → Int32} {r : Nat → Nat} (i2 : Nat) (hr : ∀ i, r i < 256) : f_Sets_ringsAmong_30_l102 i2 0 0 (xsA h 28 0 (arS A r 8)) = some (nI (bs (fun k => (r k).testBit k) 8), xsA h 28 0 (arS A r 8)) := by
  refine whl_cnt (step := fun s => f_Sets_ringsAmong_30_s102 i2 s.1 s.2 (xsA h 28 0 (arS A r 8))) 8 (fun k => (nI (bs (fun k => (r k).testBit k) k), nI k)) _ (fun k hk => ?_) ?_
  · show f_Sets_ringsAmong_30_s102 i2 (nI (bs (fun k => (r k).testBit k) k)) (nI k) (xsA h 28 0 (arS A r 8)) = some (Sum.inl (nI (bs (fun k => (r k).testBit k) k + (if (r k).testBit k then 2 ^ k else 0)), nI (k + 1)))
    have hb := bs_lt (fun k => (r k).testBit k) k
    generalize bs (fun k => (r k).testBit k) k = C at hb ⊢
    unfold f_Sets_ringsAmong_30_s102
    rw [if_neg (show ¬ (8 : Int32) ≤ nI k from nI_ge (b := 8) hk (by decide)), if_pos (xibN hk (by decide)), rdA_s, nI_clamp (by omega), arS_in hk, sb_bit _ (hr k) k hk, ← nI_1]
    by_cases hc : (r k).testBit k = true
    · rw [if_pos hc, sb_or1 k hk C hb, if_pos hc]
      rfl
    · rw [if_neg hc, sb_or0, if_neg hc]
      rfl
  · show f_Sets_ringsAmong_30_s102 i2 _ (nI 8) _ = _
    unfold f_Sets_ringsAmong_30_s102
    rw [if_pos (show (8 : Int32) ≤ nI 8 by decide)]
theorem c_ringsAmong {h : xH} {n S i2 : Nat} {U : Nat → Nat} (h8 : n ≤ 8) (hU : ∀ k, k < n → h.2.2.2.1 30 i2 k = nI (U k) ∧ U k < 256) (hS : S < 256) (hSn : ∀ o, S.testBit o = true → o < n) : ∃ A, f_Sets_ringsAmong_30 (nI S) i2 h = some (nI (rgB U S n), xsA h 28 0 A) := by
  refine ⟨arS (h.2.2.2.1 28 0) (wsR U S 8) 8, ?_⟩
  have e0 : ((0 : Int32), h) = (fun k => (nI k, xsA h 28 0 (arS (h.2.2.2.1 28 0) (wsR U S 0) k))) 0 := by
    show ((0 : Int32), h) = (nI 0, xsA h 28 0 (arS (h.2.2.2.1 28 0) (wsR U S 0) 0))
    rw [nI_0, arS_0]
    exact congrArg (Prod.mk (0 : Int32)) (xsA_id (h := h) (c := 28) (i := 0)).symm
  show whl (fun s => f_Sets_ringsAmong_30_s2 i2 (nI S) s.1 s.2) ((0 : Int32), h) = _
  rw [e0]
  refine whl_cnt 8 (fun k => (nI k, xsA h 28 0 (arS (h.2.2.2.1 28 0) (wsR U S 0) k))) _ (fun k hk => ?_) ?_
  · show f_Sets_ringsAmong_30_s2 i2 (nI S) (nI k) (xsA h 28 0 (arS (h.2.2.2.1 28 0) (wsR U S 0) k)) = some (Sum.inl (nI (k + 1), xsA h 28 0 (arS (h.2.2.2.1 28 0) (wsR U S 0) (k + 1))))
    unfold f_Sets_ringsAmong_30_s2 f_Sets_ringsAmong_30_b30
    rw [if_neg (show ¬ (8 : Int32) ≤ nI k from nI_ge (b := 8) hk (by decide)), c_has hS hk, Option.bind_some]
    by_cases hc : S.testBit k = true
    · have hkn := hSn k hc
      have ek : wsR U S 0 k = U k &&& S := if_pos hc
      rw [if_pos hc, if_neg (by decide), if_pos (xibN hk (by decide)), if_pos (xibN hk (by decide)), rdA_s, nI_clamp (by omega), rdA_n (by omega), (hU k hkn).1, sb_and _ (hU k hkn).2 _ hS, ← ek, arS_s, xsA_2, ← nI_1]
      rfl
    · have ek : wsR U S 0 k = 0 := if_neg hc
      have ez : (0 : Int32) = nI (wsR U S 0 k) := by rw [ek]; exact nI_0.symm
      rw [if_neg hc, if_pos rfl, if_pos (xibN hk (by decide)), rdA_s, nI_clamp (by omega), ez, arS_s, xsA_2, ← nI_1]
      rfl
  · show f_Sets_ringsAmong_30_s2 i2 (nI S) (nI 8) (xsA h 28 0 (arS (h.2.2.2.1 28 0) (wsR U S 0) 8)) = _
    unfold f_Sets_ringsAmong_30_s2 f_Sets_ringsAmong_30_b37
    rw [if_pos (show (8 : Int32) ≤ nI 8 by decide)]
    have l39 : f_Sets_ringsAmong_30_l39 i2 0 (xsA h 28 0 (arS (h.2.2.2.1 28 0) (wsR U S 0) 8)) = some (nI (rgB U S n), xsA h 28 0 (arS (h.2.2.2.1 28 0) (wsR U S 8) 8)) := by
      refine whl_cnt (step := fun s => f_Sets_ringsAmong_30_s39 i2 s.1 s.2) 8 (fun v => (nI v, xsA h 28 0 (arS (h.2.2.2.1 28 0) (wsR U S v) 8))) _ (fun v hv => ?_) ?_
      · show f_Sets_ringsAmong_30_s39 i2 (nI v) (xsA h 28 0 (arS (h.2.2.2.1 28 0) (wsR U S v) 8)) = some (Sum.inl (nI (v + 1), xsA h 28 0 (arS (h.2.2.2.1 28 0) (wrV v (wsR U S v)) 8)))
        unfold f_Sets_ringsAmong_30_s39
        rw [if_neg (show ¬ (8 : Int32) ≤ nI v from nI_ge (b := 8) hv (by decide)), c_rings48 i2 hv (wsR_lt hS v)]
      · show f_Sets_ringsAmong_30_s39 i2 (nI 8) (xsA h 28 0 (arS (h.2.2.2.1 28 0) (wsR U S 8) 8)) = _
        unfold f_Sets_ringsAmong_30_s39 f_Sets_ringsAmong_30_b97
        rw [if_pos (show (8 : Int32) ≤ nI 8 by decide), c_rings102 i2 (wsR_lt hS 8), rgB_ws hS h8 hSn]
        rfl
    rw [l39]
    rfl
