/-! PURE: four bytes put on the tape, class and reference -/
theorem upd_2 {f : Nat → Int32} {i : Nat} {x y : Int32} : upd (upd f i x) i y = upd f i y := by
  funext j
  by_cases hj : j = i
  · rw [hj, pk_us, pk_us]
  · rw [pk_un hj, pk_un hj, pk_un hj]
theorem upd_id {f : Nat → Int32} {i : Nat} : upd f i (f i) = f := by
  funext j
  by_cases hj : j = i
  · rw [hj, pk_us]
  · rw [pk_un hj]
theorem xsI_2 {h : xH} {c k i : Nat} {x y : Int32} : xsI (xsI h c k i x) c k i y = xsI h c k i y := by
  show (xw (xw h.1 c k (upd (h.1 c k) i x)) c k (upd (xw h.1 c k (upd (h.1 c k) i x) c k) i y), h.2) = (xw h.1 c k (upd (h.1 c k) i y), h.2)
  rw [xw_2, xw_s, upd_2]
theorem xsI_id {h : xH} {c k i : Nat} : xsI h c k i (h.1 c k i) = h := by
  show (xw h.1 c k (upd (h.1 c k) i (h.1 c k i)), h.2) = h
  rw [upd_id, xw_id]
def byV (v : Int32) (k : Nat) : Int32 := ((v >>> (((24 : Int32) + nI k * (-8)) &&& 31)).toInt8.toInt32).toInt8.toInt32
def wrB (A : Nat → Int32) (t : Nat) (v : Int32) (k : Nat) : Nat → Int32 := fun i => if t ≤ i ∧ i < t + k then byV v (i - t) else A i
theorem wrB_0 {A : Nat → Int32} {t : Nat} {v : Int32} : wrB A t v 0 = A := by
  funext i
  exact if_neg (by omega)
theorem wrB_s {A : Nat → Int32} {t k : Nat} {v : Int32} : upd (wrB A t v k) (t + k) (byV v k) = wrB A t v (k + 1) := by
  funext i
  by_cases hi : i = t + k
  · subst hi
    rw [pk_us]
    unfold wrB
    rw [if_pos (by omega), show t + k - t = k by omega]
  · rw [pk_un hi]
    unfold wrB
    by_cases h1 : t ≤ i ∧ i < t + k
    · rw [if_pos h1, if_pos (by omega)]
    · rw [if_neg h1, if_neg (by omega)]
theorem by_ge : ∀ k, k < 4 → ¬ (24 : Int32) + nI k * (-8) < 0 := by decide +kernel
theorem by_st : ∀ k, k < 4 → (24 : Int32) + nI k * (-8) + (-8) = 24 + nI (k + 1) * (-8) := by decide +kernel
theorem c_put {h : xH} {t : Nat} {v : Int32} (ht : h.1 7 6 0 = nI t) (t4 : t + 4 ≤ 400) : f_Tape_put v h = some (xsI (xsA h 33 0 (wrB (h.2.2.2.1 33 0) t v 4)) 7 6 0 (nI (t + 4))) := by
  have e0 : ((24 : Int32), h) = (fun k => ((24 : Int32) + nI k * (-8), xsI (xsA h 33 0 (wrB (h.2.2.2.1 33 0) t v k)) 7 6 0 (nI (t + k)))) 0 := by
    show ((24 : Int32), h) = ((24 : Int32) + nI 0 * (-8), xsI (xsA h 33 0 (wrB (h.2.2.2.1 33 0) t v 0)) 7 6 0 (nI t))
    rw [wrB_0, xsA_id, ← ht, xsI_id]
    rfl
  show whl (fun s => f_Tape_put_s3 v s.1 s.2) ((24 : Int32), h) = _
  rw [e0]
  refine whl_cnt 4 (fun k => ((24 : Int32) + nI k * (-8), xsI (xsA h 33 0 (wrB (h.2.2.2.1 33 0) t v k)) 7 6 0 (nI (t + k)))) _ (fun k hk => ?_) ?_
  · have eg : (xsI (xsA h 33 0 (wrB (h.2.2.2.1 33 0) t v k)) 7 6 0 (nI (t + k))).1 7 6 0 = nI (t + k) := rdI_s
    show (if (24 : Int32) + nI k * (-8) < 0 then _ else if (xsI (xsA h 33 0 (wrB (h.2.2.2.1 33 0) t v k)) 7 6 0 (nI (t + k))).1 7 6 0 < 0 then _ else if (400 : Int32) ≤ (xsI (xsA h 33 0 (wrB (h.2.2.2.1 33 0) t v k)) 7 6 0 (nI (t + k))).1 7 6 0 then _ else if xib ((xsI (xsA h 33 0 (wrB (h.2.2.2.1 33 0) t v k)) 7 6 0 (nI (t + k))).1 7 6 0) 400 then some (Sum.inl ((24 : Int32) + nI k * (-8) + (-8), xsI (xsI (xsA (xsA h 33 0 (wrB (h.2.2.2.1 33 0) t v k)) 33 0 (upd ((xsA h 33 0 (wrB (h.2.2.2.1 33 0) t v k)).2.2.2.1 33 0) ((xsI (xsA h 33 0 (wrB (h.2.2.2.1 33 0) t v k)) 7 6 0 (nI (t + k))).1 7 6 0).toNatClampNeg (byV v k))) 7 6 0 (nI (t + k))) 7 6 0 ((xsI (xsA h 33 0 (wrB (h.2.2.2.1 33 0) t v k)) 7 6 0 (nI (t + k))).1 7 6 0 + 1))) else none) = some (Sum.inl ((24 : Int32) + nI (k + 1) * (-8), xsI (xsA h 33 0 (wrB (h.2.2.2.1 33 0) t v (k + 1))) 7 6 0 (nI (t + (k + 1)))))
    rw [eg, if_neg (by_ge k hk), if_neg (nI_pos (by omega)), if_neg (show ¬ (400 : Int32) ≤ nI (t + k) from nI_ge (b := 400) (by omega) (by decide)), if_pos (xibN (by omega) (by decide)), by_st k hk, nI_clamp (by omega), xsI_2, xsA_2, rdA_s, wrB_s, nI_1]
    rfl
  · show (if (24 : Int32) + nI 4 * (-8) < 0 then some (Sum.inr _) else _) = _
    rw [if_pos (by decide)]
theorem m_four {h : xH} {t : Nat} {v : Int32} (ht : h.1 12 1 0 = nI t) (t4 : t + 4 ≤ 400) : f_M_four v h = some (xsI (xsA h 47 0 (wrB (h.2.2.2.1 47 0) t v 4)) 12 1 0 (nI (t + 4))) := by
  have e0 : ((24 : Int32), h) = (fun k => ((24 : Int32) + nI k * (-8), xsI (xsA h 47 0 (wrB (h.2.2.2.1 47 0) t v k)) 12 1 0 (nI (t + k)))) 0 := by
    show ((24 : Int32), h) = ((24 : Int32) + nI 0 * (-8), xsI (xsA h 47 0 (wrB (h.2.2.2.1 47 0) t v 0)) 12 1 0 (nI t))
    rw [wrB_0, xsA_id, ← ht, xsI_id]
    rfl
  show whl (fun s => f_M_four_s3 v s.1 s.2) ((24 : Int32), h) = _
  rw [e0]
  refine whl_cnt 4 (fun k => ((24 : Int32) + nI k * (-8), xsI (xsA h 47 0 (wrB (h.2.2.2.1 47 0) t v k)) 12 1 0 (nI (t + k)))) _ (fun k hk => ?_) ?_
  · have eg : (xsI (xsA h 47 0 (wrB (h.2.2.2.1 47 0) t v k)) 12 1 0 (nI (t + k))).1 12 1 0 = nI (t + k) := rdI_s
    show (if (24 : Int32) + nI k * (-8) < 0 then _ else if xib ((xsI (xsA h 47 0 (wrB (h.2.2.2.1 47 0) t v k)) 12 1 0 (nI (t + k))).1 12 1 0) 400 then some (Sum.inl ((24 : Int32) + nI k * (-8) + (-8), xsI (xsI (xsA (xsA h 47 0 (wrB (h.2.2.2.1 47 0) t v k)) 47 0 (upd ((xsA h 47 0 (wrB (h.2.2.2.1 47 0) t v k)).2.2.2.1 47 0) ((xsI (xsA h 47 0 (wrB (h.2.2.2.1 47 0) t v k)) 12 1 0 (nI (t + k))).1 12 1 0).toNatClampNeg (byV v k))) 12 1 0 (nI (t + k))) 12 1 0 ((xsI (xsA h 47 0 (wrB (h.2.2.2.1 47 0) t v k)) 12 1 0 (nI (t + k))).1 12 1 0 + 1))) else none) = some (Sum.inl ((24 : Int32) + nI (k + 1) * (-8), xsI (xsA h 47 0 (wrB (h.2.2.2.1 47 0) t v (k + 1))) 12 1 0 (nI (t + (k + 1)))))
    rw [eg, if_neg (by_ge k hk), if_pos (xibN (by omega) (by decide)), by_st k hk, nI_clamp (by omega), xsI_2, xsA_2, rdA_s, wrB_s, nI_1]
    rfl
  · show (if (24 : Int32) + nI 4 * (-8) < 0 then some (Sum.inr _) else _) = _
    rw [if_pos (by decide)]
