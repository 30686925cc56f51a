/-! PURE: back -/
/-- the first j of image k laid into what is said -/
def bcA (A S : Nat → Int32) (k j : Nat) : Nat → Int32 := fun i => if i < j then A (101 * k + i) else S i
theorem bcA_0 {A S : Nat → Int32} {k : Nat} : bcA A S k 0 = S := by
  funext i
  exact if_neg (by omega)
theorem bcA_s {A S : Nat → Int32} {k j : Nat} : upd (bcA A S k j) j (A (101 * k + j)) = bcA A S k (j + 1) := by
  funext i
  by_cases hi : i = j
  · subst hi
    rw [pk_us]
    unfold bcA
    rw [if_pos (by omega)]
  · rw [pk_un hi]
    unfold bcA
    by_cases h1 : i < j
    · rw [if_pos h1, if_pos (by omega)]
    · rw [if_neg h1, if_neg (by omega)]
theorem m_back50 {h : xH} {k : Nat} (hk : k < 4) : f_M_back_l50 (nI k) 0 h = some (bcA (h.2.2.2.1 66 0) (mS h) k 101 10, xsA h 56 0 (bcA (h.2.2.2.1 66 0) (mS h) k 101)) := by
  have e0 : ((0 : Int32), h) = (fun j => (nI j, xsA h 56 0 (bcA (h.2.2.2.1 66 0) (mS h) k j))) 0 := by
    show ((0 : Int32), h) = (nI 0, xsA h 56 0 (bcA (h.2.2.2.1 66 0) (mS h) k 0))
    rw [bcA_0, nI_0]
    exact congrArg (Prod.mk (0 : Int32)) (xsA_id (h := h) (c := 56) (i := 0)).symm
  show whl (fun s => f_M_back_s50 (nI k) s.1 s.2) ((0 : Int32), h) = _
  rw [e0]
  have e101 : (101 : Int32) * nI k = nI (101 * k) := pk_mul 101 k
  refine whl_cnt 101 (fun j => (nI j, xsA h 56 0 (bcA (h.2.2.2.1 66 0) (mS h) k j))) _ (fun j hj => ?_) ?_
  · show (if (101 : Int32) ≤ nI j then _ else if xib ((101 : Int32) * nI k + nI j) 404 then (if xib (nI j) 101 then some (Sum.inl (nI j + 1, xsA (xsA h 56 0 (bcA (h.2.2.2.1 66 0) (mS h) k j)) 56 0 (upd ((xsA h 56 0 (bcA (h.2.2.2.1 66 0) (mS h) k j)).2.2.2.1 56 0) (nI j).toNatClampNeg ((xsA h 56 0 (bcA (h.2.2.2.1 66 0) (mS h) k j)).2.2.2.1 66 0 ((101 : Int32) * nI k + nI j).toNatClampNeg)))) else none) else none) = some (Sum.inl (nI (j + 1), xsA h 56 0 (bcA (h.2.2.2.1 66 0) (mS h) k (j + 1))))
    rw [e101, if_neg (show ¬ (101 : Int32) ≤ nI j from nI_ge (b := 101) hj (by decide)), if_pos (xibA rfl (by omega) (by decide)), if_pos (xibN hj (by decide)), ixA rfl (by omega), nI_clamp (by omega), xsA_2, rdA_s, rdA_n (by decide), bcA_s, nI_1]
  · show (if (101 : Int32) ≤ nI 101 then (some ((xsA h 56 0 (bcA (h.2.2.2.1 66 0) (mS h) k 101)).2.2.2.1 56 0 10, xsA h 56 0 (bcA (h.2.2.2.1 66 0) (mS h) k 101))).map Sum.inr else _) = _
    rw [if_pos (show (101 : Int32) ≤ nI 101 by decide), rdA_s]
    rfl
variable {Q : xH → Nat → Prop}
/-- back -/
theorem p_back (hQ : qOk Q) : lI_back (jII Q) := by
  rintro a h ⟨R, hR, r1, r2, hj, hq⟩
  have keep : jII Q h := ⟨R, hR, r1, r2, hj, hq⟩
  obtain ⟨ht, hf, him, n', m', c', hsc', hpa⟩ := id hj
  have cl : f_B_back a h = (if a < 0 then some (-1, h) else if (4 : Int32) ≤ a then some (-1, h) else if xib a 4 then (if h.2.2.2.1 45 0 a.toNatClampNeg = 0 then some (-1, h) else if xib a 4 then (f_Scene_copyFrom 0 (1 + a.toNatClampNeg) h).bind (fun h8 => some ((xsI h8 1 2 0 0).1 6 0 0, xsI h8 1 2 0 0)) else none) else none) := rfl
  have rf : ∀ h1 : xH, f_M_back a h1 = (f_M_in a.toInt64 0 3 h1).bind (fun r1 => if r1 = 0 then some (-1, h1) else if xib a 4 then (if h1.2.2.2.1 69 0 a.toNatClampNeg = 0 then some (-1, h1) else if xib a 4 then (xlet (xsI h1 12 21 0 (h1.2.2.2.1 67 0 a.toNatClampNeg)) fun h7 => if xib a 4 then (xlet (xsI h7 12 22 0 (h7.2.2.2.1 68 0 a.toNatClampNeg)) fun h9 => xlet (xsI h9 12 24 0 0) fun h10 => f_M_back_l50 a 0 h10) else none) else none) else none) := fun _ => rfl
  have mi : ∀ h1 : xH, f_M_in a.toInt64 0 3 h1 = some (if a < 0 ∨ 3 < a then 0 else 1) := fun h1 => m_in a 0 3 (by decide) (by decide)
  rcases pk_ix a (n := 4) (by omega) with h1 | h1 | ⟨k, hk, rfl⟩
  · exact ⟨-1, h, h, by rw [cl, if_pos h1], by rw [rf, mi, if_pos (Or.inl h1)]; rfl, keep⟩
  · have g4 : (4 : Int32) ≤ a := h1
    have g3 : (3 : Int32) < a := Int32.lt_of_lt_of_le (by decide) g4
    have g0 : ¬ a < 0 := fun z => absurd (Int32.lt_trans g3 z) (by decide)
    exact ⟨-1, h, h, by rw [cl, if_neg g0, if_pos g4], by rw [rf, mi, if_pos (Or.inr g3)]; rfl, keep⟩
  have k31 : ¬ (4 : Int32) ≤ nI k := nI_ge (b := 4) hk (by decide)
  have k32 : ¬ (nI k < 0 ∨ (3 : Int32) < nI k) := fun z => z.elim (nI_pos (by omega)) (nI_nlt (a := 3) (b := k) (by omega) (by decide))
  have kx : xib (nI k) 4 := xibN hk (by decide)
  have kc : (nI k).toNatClampNeg = k := nI_clamp (by omega)
  obtain ⟨q1, q2⟩ := id (him k hk)
  rcases q2 with q2 | ⟨q2, ⟨n, m, c, hsc⟩, q3, q4, q5, q6⟩
  · refine ⟨-1, h, h, ?_, ?_, keep⟩
    · rw [cl, if_neg (nI_pos (by omega)), if_neg k31, if_pos kx, if_pos (show h.2.2.2.1 45 0 (nI k).toNatClampNeg = 0 by rw [kc, q1, q2])]
    · rw [rf, mi, if_neg k32, Option.bind_some, if_neg (by decide), if_pos kx, if_pos (show h.2.2.2.1 69 0 (nI k).toNatClampNeg = 0 by rw [kc, q2])]
  obtain ⟨hv, hto, hst, hsn, hsk⟩ := id hsc
  have v01 : h.1 8 0 (1 + k) = 0 ∨ h.1 8 0 (1 + k) = 1 := by
    rw [hto.1]; exact hv.1
  obtain ⟨g, eg, s8, s6, s4, s37, s41, s29, s20, sI, sA⟩ := c_sceneCopy (h := h) (a := 0) (b := 1 + k) (by omega) v01
  have eg' : f_Scene_copyFrom 0 (1 + (nI k).toNatClampNeg) h = some g := by
    rw [kc]; exact eg
  obtain ⟨g1, eg1⟩ : ∃ g1, g1 = xsI g 1 2 0 0 := ⟨_, rfl⟩
  obtain ⟨g2, eg2⟩ : ∃ g2, g2 = xsI g1 12 21 0 (g1.2.2.2.1 67 0 k) := ⟨_, rfl⟩
  obtain ⟨g3, eg3⟩ : ∃ g3, g3 = xsI g2 12 22 0 (g2.2.2.2.1 68 0 k) := ⟨_, rfl⟩
  obtain ⟨g4, eg4⟩ : ∃ g4, g4 = xsI g3 12 24 0 0 := ⟨_, rfl⟩
  obtain ⟨g5, eg5⟩ : ∃ g5, g5 = xsA g4 56 0 (bcA (g4.2.2.2.1 66 0) (mS g4) k 101) := ⟨_, rfl⟩
  have i5 : ∀ c z i, ¬ (c = 1 ∧ z = 2) → ¬ (c = 12 ∧ (z = 21 ∨ z = 22 ∨ z = 24)) → g5.1 c z i = g.1 c z i := fun c z i h1 h2 => by
    rw [eg5]
    show g4.1 c z i = _
    rw [eg4, rdI (by omega), eg3, rdI (by omega), eg2, rdI (by omega), eg1, rdI (by omega)]
  have eI : ∀ c z i, ¬ (c = 1 ∧ z = 2) → ¬ (c = 12 ∧ (z = 21 ∨ z = 22 ∨ z = 24)) → ¬ scF c i 0 → g5.1 c z i = h.1 c z i := fun c z i h1 h2 hn => by rw [i5 c z i h1 h2]; exact sI c z i hn
  have aA : ∀ f i, ¬ (i = 0 ∧ f = 56) → g5.2.2.2.1 f i = g.2.2.2.1 f i := fun f i hn => by
    rw [eg5, rdA_n (by omega), eg4, eg3, eg2, eg1]; rfl
  have eA : ∀ f i, ¬ (i = 0 ∧ f = 56) → ¬ scA f i 0 → g5.2.2.2.1 f i = h.2.2.2.1 f i := fun f i hn hm => (aA f i hn).trans (sA f i hm)
  have b21 : g5.1 12 21 0 = h.2.2.2.1 67 0 k := by
    rw [eg5]
    show g4.1 12 21 0 = _
    rw [eg4, rdI (by decide), eg3, rdI (by decide), eg2, rdI_s, eg1]
    show g.2.2.2.1 67 0 k = _
    rw [sA 67 0 (by unfold scA; omega)]
  have b22 : g5.1 12 22 0 = h.2.2.2.1 68 0 k := by
    rw [eg5]
    show g4.1 12 22 0 = _
    rw [eg4, rdI (by decide), eg3, rdI_s, eg2, eg1]
    show g.2.2.2.1 68 0 k = _
    rw [sA 68 0 (by unfold scA; omega)]
  have b24 : g5.1 12 24 0 = 0 := by
    rw [eg5]
    show g4.1 12 24 0 = _
    rw [eg4, rdI_s]
  have b12 : g5.1 1 2 0 = 0 := by
    rw [eg5]
    show g4.1 1 2 0 = _
    rw [eg4, rdI (by decide), eg3, rdI (by decide), eg2, rdI (by decide), eg1, rdI_s]
  have b66 : g4.2.2.2.1 66 0 = h.2.2.2.1 66 0 := by
    rw [eg4, eg3, eg2, eg1]
    show g.2.2.2.1 66 0 = _
    rw [sA 66 0 (by unfold scA; omega)]
  have b56 : ∀ t, t ≤ 100 → mS g5 t = imV h k t := fun t ht => by
    show g5.2.2.2.1 56 0 t = _
    rw [eg5, rdA_s, b66]
    exact if_pos (by omega)
  have ans : bcA (g4.2.2.2.1 66 0) (mS g4) k 101 10 = imV h k 10 := by
    rw [b66]
    exact if_pos (by omega)
  refine ⟨imV h k 10, g1, g5, ?_, ?_, R, hR, (eI 11 5 0 (by omega) (by omega) (by unfold scF; omega)).trans r1, (eI 12 2 0 (by omega) (by omega) (by unfold scF; omega)).trans r2, ⟨?_, ?_, fun j hj => ?_, n, m, c, ?_, ?_⟩, hQ h g5 R ⟨fun z i => eI 2 z i (by omega) (by omega) (by unfold scF; omega), funext fun i => eA 18 i (by omega) (by unfold scA; omega), funext fun i => eA 48 i (by omega) (by unfold scA; omega), fun j _ => by rw [eA 49 0 (by omega) (by unfold scA; omega)], funext fun i => eA 50 i (by omega) (by unfold scA; omega), funext fun i => eA 51 i (by omega) (by unfold scA; omega)⟩ hq⟩
  · rw [cl, if_neg (nI_pos (by omega)), if_neg k31, if_pos kx, if_neg (show ¬ h.2.2.2.1 45 0 (nI k).toNatClampNeg = 0 by rw [kc, q1, q2]; decide), if_pos kx, eg', Option.bind_some, ← eg1]
    have : g1.1 6 0 0 = imV h k 10 := by
      rw [eg1, rdI (by decide), s6 0 (by decide)]
      exact hst.1
    rw [this]
  · have e69 : g1.2.2.2.1 69 0 (nI k).toNatClampNeg = 1 := by
      rw [kc, eg1]
      show g.2.2.2.1 69 0 k = 1
      rw [sA 69 0 (by unfold scA; omega)]
      exact q2
    rw [rf, mi, if_neg k32, Option.bind_some, if_neg (by decide), if_pos kx, if_neg (show ¬ g1.2.2.2.1 69 0 (nI k).toNatClampNeg = 0 by rw [e69]; decide), if_pos kx]
    show (if xib (nI k) 4 then f_M_back_l50 (nI k) 0 (xsI (xsI (xsI g1 12 21 0 (g1.2.2.2.1 67 0 (nI k).toNatClampNeg)) 12 22 0 ((xsI g1 12 21 0 (g1.2.2.2.1 67 0 (nI k).toNatClampNeg)).2.2.2.1 68 0 (nI k).toNatClampNeg)) 12 24 0 0) else none) = _
    rw [if_pos kx, kc, ← eg2, ← eg3, ← eg4, m_back50 hk, ← eg5, ans]
  · exact tpR_of (eI 7 6 0 (by omega) (by omega) (by unfold scF; omega)) (eI 12 1 0 (by omega) (by omega) (by unfold scF; omega)) (eA 33 0 (by omega) (by unfold scA; omega)) (eA 47 0 (by omega) (by unfold scA; omega)) ht
  · unfold fxR
    rw [b21, b22, i5 4 2 0 (by omega) (by omega), i5 4 3 0 (by omega) (by omega), s4.1, s4.2.1]
    exact ⟨q3, q4, q5, q6⟩
  · exact imR_of (by rw [eA 45 0 (by omega) (by unfold scA; omega)]) (by rw [eA 69 0 (by omega) (by unfold scA; omega)]) (by rw [eA 67 0 (by omega) (by unfold scA; omega)]) (by rw [eA 68 0 (by omega) (by unfold scA; omega)]) (fun t ht => by rw [eA 66 0 (by omega) (by unfold scA; omega)]) (fun c z hc => eI c z _ (by omega) (by omega) (by unfold scF; omega)) (fun f hf => eA f _ (by omega) (by unfold scA; omega)) (him j hj)
  · exact scR_of (h := h) (i := 1 + k) (fun z hz => by rw [i5 8 z 0 (by omega) (by omega)]; exact s8 z hz) (fun z hz => by rw [i5 6 z 0 (by omega) (by omega)]; exact s6 z hz) (by rw [i5 4 4 0 (by omega) (by omega)]; exact s4.2.2) (fun f h1 h2 z hz => by rw [aA f 0 (by omega)]; exact s37 f h1 h2 z hz) (fun z hz => by rw [aA 41 0 (by omega)]; exact s41 z hz) (fun f h1 h2 z hz => by rw [aA f 0 (by omega)]; exact s29 f h1 h2 z hz) (fun f h1 z hz => by rw [aA f 0 (by omega)]; exact s20 f h1 z hz) b56 hsc
  · obtain ⟨u, x, -, x20, -, -, e, -⟩ := hpa
    exact ⟨0, x, by omega, x20, by rw [b12, nI_0], by rw [b24, nI_0], (eI 1 1 0 (by omega) (by omega) (by unfold scF; omega)).trans e, fun j hj => absurd hj (by omega)⟩
