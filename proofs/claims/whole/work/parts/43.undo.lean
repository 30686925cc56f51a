/-! PURE: undo -/
/-- the k first of what was said w acts in brought back -/
def bkA (A S : Nat → Int32) (w k : Nat) : Nat → Int32 := fun t => if 10 ≤ t ∧ t < 10 + k then A (34 * w + (t - 10)) else S t
theorem bkA_0 {A S : Nat → Int32} {w : Nat} : bkA A S w 0 = S := by
  funext t
  exact if_neg (by omega)
theorem bkA_s {A S : Nat → Int32} {w k : Nat} : upd (bkA A S w k) (10 + k) (A (34 * w + k)) = bkA A S w (k + 1) := by
  funext i
  by_cases hi : i = 10 + k
  · subst hi
    rw [pk_us]
    unfold bkA
    rw [if_pos (by omega), show 10 + k - 10 = k by omega]
  · rw [pk_un hi]
    unfold bkA
    by_cases h1 : 10 ≤ i ∧ i < 10 + k
    · rw [if_pos h1, if_pos (by omega)]
    · rw [if_neg h1, if_neg (by omega)]
theorem m_undo21 {h : xH} {w : Nat} (hu : h.1 12 24 0 = nI w) (w20 : w < 20) : f_M_undo_l21 0 h = some (nI w, xsA h 56 0 (bkA (h.2.2.2.1 57 0) (mS h) w 34)) := by
  have e0 : ((0 : Int32), h) = (fun k => (nI k, xsA h 56 0 (bkA (h.2.2.2.1 57 0) (mS h) w k))) 0 := by
    show ((0 : Int32), h) = (nI 0, xsA h 56 0 (bkA (h.2.2.2.1 57 0) (mS h) w 0))
    rw [bkA_0, nI_0]
    exact congrArg (Prod.mk (0 : Int32)) (xsA_id (h := h) (c := 56) (i := 0)).symm
  show whl (fun s => f_M_undo_s21 s.1 s.2) ((0 : Int32), h) = _
  rw [e0]
  refine whl_cnt 34 (fun k => (nI k, xsA h 56 0 (bkA (h.2.2.2.1 57 0) (mS h) w k))) _ (fun k hk => ?_) ?_
  · show (if (34 : Int32) ≤ nI k then _ else if xib (34 * h.1 12 24 0 + nI k) 680 then (if xib (10 + nI k) 101 then some (Sum.inl (nI k + 1, xsA (xsA h 56 0 (bkA (h.2.2.2.1 57 0) (mS h) w k)) 56 0 (upd ((xsA h 56 0 (bkA (h.2.2.2.1 57 0) (mS h) w k)).2.2.2.1 56 0) ((10 : Int32) + nI k).toNatClampNeg ((xsA h 56 0 (bkA (h.2.2.2.1 57 0) (mS h) w k)).2.2.2.1 57 0 (34 * h.1 12 24 0 + nI k).toNatClampNeg)))) else none) else none) = some (Sum.inl (nI (k + 1), xsA h 56 0 (bkA (h.2.2.2.1 57 0) (mS h) w (k + 1))))
    have e34 : (34 : Int32) * nI w = nI (34 * w) := pk_mul 34 w
    rw [hu, e34, if_neg (show ¬ (34 : Int32) ≤ nI k from nI_ge (b := 34) hk (by decide)), if_pos (xibA rfl (by omega) (by decide)), if_pos (xibA (c := 10) (a := 10) rfl (by omega) (by decide)), ixA (c := 10) (a := 10) rfl (by omega), ixA rfl (by omega), xsA_2, rdA_s, rdA_n (by decide), bkA_s, nI_1]
  · show (if (34 : Int32) ≤ nI 34 then (some (h.1 12 24 0, xsA h 56 0 (bkA (h.2.2.2.1 57 0) (mS h) w 34))).map Sum.inr else _) = _
    rw [if_pos (show (34 : Int32) ≤ nI 34 by decide), hu]
    rfl
variable {Q : xH → Nat → Prop}
/-- undo -/
theorem p_undo (hQ : qOk Q) : lI_undo (jII Q) := by
  rintro h ⟨R, hR, r1, r2, hj, hq⟩
  have keep : jII Q h := ⟨R, hR, r1, r2, hj, hq⟩
  obtain ⟨ht, hf, him, n, m, c, hsc, u, x, u20, x20, u1, u2, u3, up⟩ := id hj
  obtain ⟨hv, hto, hst, -, -⟩ := id hsc
  obtain ⟨v0, -, -, -, v3, n8, -, -, v10, v11, vk, -⟩ := id hv
  have cl : f_B_undo h = (if h.1 1 2 0 = 0 then some (-1, h) else (f_Past_bringBack 0 h).bind (fun h4 => some (h4.1 1 2 0, h4))) := rfl
  have rf : ∀ h1 : xH, f_M_undo h1 = (if h1.1 12 24 0 = 0 then some (-1, h1) else f_M_undo_l21 0 (xsI h1 12 24 0 (h1.1 12 24 0 - 1))) := fun _ => rfl
  rcases u with _ | w
  · exact ⟨-1, h, h, by rw [cl, u1, nI_0, if_pos rfl], by rw [rf, u2, nI_0, if_pos rfl], keep⟩
  have ne : ¬ nI (w + 1) = 0 := nI_ne0 (by omega) (by omega)
  obtain ⟨y, hy, ey⟩ : ∃ y, y < 20 ∧ y = (x + 19) % 20 := ⟨_, Nat.mod_lt _ (by decide), rfl⟩
  obtain ⟨g1, e1, c1, c2, c3, c4, c5, c6, c7⟩ := c_copyFrom (h := xsI h 1 1 0 (nI y)) (a := 0) (b := 5 + y) (by omega)
  have bb : f_Past_bringBack 0 h = some (xsI g1 1 2 0 (nI w)) := by
    have b19 : f_Past_bringBack_b19 0 (nI y) h = some (xsI g1 1 2 0 (nI w)) := by
      show (if (xsI h 1 1 0 (nI y)).1 1 2 0 ≤ 0 then some (xsI h 1 1 0 (nI y)) else if (20 : Int32) ≤ (xsI h 1 1 0 (nI y)).1 1 1 0 then some (xsI h 1 1 0 (nI y)) else if xib ((xsI h 1 1 0 (nI y)).1 1 1 0) 20 then (f_State_copyFrom 0 (5 + ((xsI h 1 1 0 (nI y)).1 1 1 0).toNatClampNeg) (xsI h 1 1 0 (nI y))).bind (fun h8 => some (xsI h8 1 2 0 (h8.1 1 2 0 - 1))) else none) = _
      rw [rdI (by decide), rdI_s, u1, if_neg (nI_nle (by omega) (by omega)), if_neg (show ¬ (20 : Int32) ≤ nI y from nI_ge (b := 20) hy (by decide)), if_pos (xibN hy (by decide)), nI_clamp (by omega), e1]
      show some (xsI g1 1 2 0 (g1.1 1 2 0 - 1)) = _
      rw [c2 1 2 0 (by decide), rdI (by decide), u1, nI_pred]
    show (if h.1 1 1 0 ≤ 0 then f_Past_bringBack_b19 0 19 h else f_Past_bringBack_b19 0 (h.1 1 1 0 - 1) h) = _
    rw [u3]
    rcases x with _ | x
    · rw [if_pos (show nI 0 ≤ 0 by decide)]
      have : y = 19 := by omega
      subst this
      exact b19
    · rw [if_neg (nI_nle (by omega) (by omega)), nI_pred]
      have : y = x := by omega
      subst this
      exact b19
  have eI : ∀ c k i, ¬ (c = 6 ∧ i = 0) → ¬ c = 1 → (xsI g1 1 2 0 (nI w)).1 c k i = h.1 c k i := fun c k i a b => by rw [rdI (by omega), c2 c k i a, rdI (by omega)]
  have eA : ∀ f i, ¬ (29 ≤ f ∧ f ≤ 32 ∧ i = 0) → (xsI g1 1 2 0 (nI w)).2.2.2.1 f i = h.2.2.2.1 f i := fun f i a => c4 f i a
  have hC : acC h (xsI g1 1 2 0 (nI w)) := ⟨fun c k i a b => eI c k i (by omega) b, fun k i a b => eI 6 k i (by omega) (by decide), fun f i a => eA f i (by omega)⟩
  have iy : (x + 20 - (w + 1) + w) % 20 = y := by omega
  have sy : stR h (5 + y) (paV h w) n := by
    have := (up w (by omega)).2
    rw [iy] at this
    exact this
  have s1 : stR (xsI g1 1 2 0 (nI w)) 0 (paV h w) n := stR_of (fun k hk => by rw [rdI (by omega), c1 k hk, rdI (by omega)]) (fun f a b k hk => c3 f a b k (by omega)) sy
  have pa : paC (xsI g1 1 2 0 (nI w)) n w y (paV h) := by
    refine ⟨by omega, hy, rdI_s, by rw [rdI (by decide), c2 1 1 0 (by decide), rdI_s], fun j hj => ?_⟩
    rw [show (y + 20 - w + j) % 20 = (x + 20 - (w + 1) + j) % 20 by omega]
    exact stR_of (fun k _ => eI 6 k _ (by omega) (by decide)) (fun f a b k _ => by rw [eA f _ (by omega)]) (up j (by omega)).2
  have e24 : (xsI g1 1 2 0 (nI w)).1 12 24 0 = nI (w + 1) := by rw [eI 12 24 0 (by decide) (by decide)]; exact u2
  have eS : mS (xsI g1 1 2 0 (nI w)) = mS h := by
    funext t
    show (xsI g1 1 2 0 (nI w)).2.2.2.1 56 0 t = _
    rw [eA 56 0 (by omega)]
  have e57 : (xsI g1 1 2 0 (nI w)).2.2.2.1 57 0 = h.2.2.2.1 57 0 := eA 57 0 (by omega)
  have eB : bkA (h.2.2.2.1 57 0) (mS h) w 34 = paV h w := rfl
  have run : f_M_undo (xsI g1 1 2 0 (nI w)) = some (nI w, xsA (xsI (xsI g1 1 2 0 (nI w)) 12 24 0 (nI w)) 56 0 (paV h w)) := by
    rw [rf, e24, if_neg ne, nI_pred, m_undo21 rdI_s (by omega)]
    show some (nI w, xsA _ 56 0 (bkA ((xsI g1 1 2 0 (nI w)).2.2.2.1 57 0) (mS (xsI g1 1 2 0 (nI w))) w 34)) = _
    rw [e57, eS, eB]
  have hM : acM (xsI g1 1 2 0 (nI w)) (xsA (xsI (xsI g1 1 2 0 (nI w)) 12 24 0 (nI w)) 56 0 (paV h w)) := ⟨fun c k i hn => by show (xsI (xsI g1 1 2 0 (nI w)) 12 24 0 (nI w)).1 c k i = _; rw [rdI hn], fun f i a b => rdA_n (by omega)⟩
  have em : mS (xsA (xsI (xsI g1 1 2 0 (nI w)) 12 24 0 (nI w)) 56 0 (paV h w)) = paV h w := rdA_s
  refine ⟨nI w, _, _, ?_, run, act_jII hQ hR r1 r2 hq hC hM ?_⟩
  · rw [cl, u1, if_neg ne, bb]
    show some ((xsI g1 1 2 0 (nI w)).1 1 2 0, _) = _
    rw [rdI_s]
  · refine act_jI (PA := paV h) ht hf him hsc (up w (by omega)).1 (fun t ht => if_neg ht) hC s1 pa hM em (show (xsI (xsI g1 1 2 0 (nI w)) 12 24 0 (nI w)).1 12 24 0 = nI w from rdI_s) (fun j hj => ?_) (fun j hj => (up j (by omega)).1)
    funext t
    show (if 10 ≤ t ∧ t < 44 then (xsA (xsI (xsI g1 1 2 0 (nI w)) 12 24 0 (nI w)) 56 0 (paV h w)).2.2.2.1 57 0 (34 * j + (t - 10)) else mS (xsA (xsI (xsI g1 1 2 0 (nI w)) 12 24 0 (nI w)) 56 0 (paV h w)) t) = (if 10 ≤ t ∧ t < 44 then h.2.2.2.1 57 0 (34 * j + (t - 10)) else mS h t)
    by_cases htt : 10 ≤ t ∧ t < 44
    · rw [if_pos htt, if_pos htt, rdA_n (by decide)]
      exact congrFun e57 _
    · rw [if_neg htt, if_neg htt, em]
      exact if_neg htt
