/-! PURE: image -/
/-- the first j of what is said laid into image k -/
def imA (S A : Nat → Int32) (k j : Nat) : Nat → Int32 := fun i => if 101 * k ≤ i ∧ i < 101 * k + j then S (i - 101 * k) else A i
theorem imA_0 {S A : Nat → Int32} {k : Nat} : imA S A k 0 = A := by
  funext i
  exact if_neg (by omega)
theorem imA_s {S A : Nat → Int32} {k j : Nat} : upd (imA S A k j) (101 * k + j) (S j) = imA S A k (j + 1) := by
  funext i
  by_cases hi : i = 101 * k + j
  · subst hi
    rw [pk_us]
    unfold imA
    rw [if_pos (by omega), show 101 * k + j - 101 * k = j by omega]
  · rw [pk_un hi]
    unfold imA
    by_cases h1 : 101 * k ≤ i ∧ i < 101 * k + j
    · rw [if_pos h1, if_pos (by omega)]
    · rw [if_neg h1, if_neg (by omega)]
theorem m_image43 {h : xH} {k : Nat} (hk : k < 4) : f_M_image_l43 (nI k) 0 h = some (mS h 10, xsA h 66 0 (imA (mS h) (h.2.2.2.1 66 0) k 101)) := by
  have e0 : ((0 : Int32), h) = (fun j => (nI j, xsA h 66 0 (imA (mS h) (h.2.2.2.1 66 0) k j))) 0 := by
    show ((0 : Int32), h) = (nI 0, xsA h 66 0 (imA (mS h) (h.2.2.2.1 66 0) k 0))
    rw [imA_0, nI_0]
    exact congrArg (Prod.mk (0 : Int32)) (xsA_id (h := h) (c := 66) (i := 0)).symm
  show whl (fun s => f_M_image_s43 (nI k) s.1 s.2) ((0 : Int32), h) = _
  rw [e0]
  have e101 : (101 : Int32) * nI k = nI (101 * k) := pk_mul 101 k
  refine whl_cnt 101 (fun j => (nI j, xsA h 66 0 (imA (mS h) (h.2.2.2.1 66 0) k j))) _ (fun j hj => ?_) ?_
  · show (if (101 : Int32) ≤ nI j then _ else if xib (nI j) 101 then (if xib ((101 : Int32) * nI k + nI j) 404 then some (Sum.inl (nI j + 1, xsA (xsA h 66 0 (imA (mS h) (h.2.2.2.1 66 0) k j)) 66 0 (upd ((xsA h 66 0 (imA (mS h) (h.2.2.2.1 66 0) k j)).2.2.2.1 66 0) ((101 : Int32) * nI k + nI j).toNatClampNeg ((xsA h 66 0 (imA (mS h) (h.2.2.2.1 66 0) k j)).2.2.2.1 56 0 (nI j).toNatClampNeg)))) else none) else none) = some (Sum.inl (nI (j + 1), xsA h 66 0 (imA (mS h) (h.2.2.2.1 66 0) k (j + 1))))
    rw [e101, if_neg (show ¬ (101 : Int32) ≤ nI j from nI_ge (b := 101) hj (by decide)), if_pos (xibN hj (by decide)), if_pos (xibA rfl (by omega) (by decide)), nI_clamp (by omega), ixA rfl (by omega), xsA_2, rdA_s, rdA_n (by decide)]
    show some (Sum.inl (nI j + 1, xsA h 66 0 (upd (imA (mS h) (h.2.2.2.1 66 0) k j) (101 * k + j) (mS h j)))) = _
    rw [imA_s, nI_1]
  · show (if (101 : Int32) ≤ nI 101 then (some ((xsA h 66 0 (imA (mS h) (h.2.2.2.1 66 0) k 101)).2.2.2.1 56 0 10, xsA h 66 0 (imA (mS h) (h.2.2.2.1 66 0) k 101))).map Sum.inr else _) = _
    rw [if_pos (show (101 : Int32) ≤ nI 101 by decide), rdA_n (by decide)]
    rfl
variable {Q : xH → Nat → Prop}
/-- image -/
theorem p_image (hQ : qOk Q) : lI_image (jII Q) := by
  rintro a h ⟨R, hR, r1, r2, hj, hq⟩
  have keep : jII Q h := ⟨R, hR, r1, r2, hj, hq⟩
  obtain ⟨ht, hf, him, n, m, c, hsc, hpa⟩ := id hj
  obtain ⟨hv, hto, hst, hsn, hsk⟩ := id hsc
  have cl : f_B_image a h = (if a < 0 then some (-1, h) else if a < 4 then (if xib a 4 then (f_Scene_copyFrom (1 + a.toNatClampNeg) 0 h).bind (fun h6 => if xib a 4 then some ((xsA h6 45 0 (upd (h6.2.2.2.1 45 0) a.toNatClampNeg 1)).1 6 0 0, xsA h6 45 0 (upd (h6.2.2.2.1 45 0) a.toNatClampNeg 1)) else none) else none) else some (-1, h)) := rfl
  have rf : ∀ h1 : xH, f_M_image a h1 = (f_M_in a.toInt64 0 3 h1).bind (fun r1 => if r1 = 0 then some (-1, h1) else if xib a 4 then (xlet (xsA h1 69 0 (upd (h1.2.2.2.1 69 0) a.toNatClampNeg 1)) fun h5 => if xib a 4 then (xlet (xsA h5 67 0 (upd (h5.2.2.2.1 67 0) a.toNatClampNeg (h5.1 12 21 0))) fun h7 => if xib a 4 then (xlet (xsA h7 68 0 (upd (h7.2.2.2.1 68 0) a.toNatClampNeg (h7.1 12 22 0))) fun h9 => f_M_image_l43 a 0 h9) else none) else none) else none) := fun _ => rfl
  have mi : ∀ h1 : xH, f_M_in a.toInt64 0 3 h1 = some (if a < 0 ∨ 3 < a then 0 else 1) := fun h1 => m_in a 0 3 (by decide) (by decide)
  rcases pk_ix a (n := 4) (by omega) with h1 | h1 | ⟨k, hk, rfl⟩
  · exact ⟨-1, h, h, by rw [cl, if_pos h1], by rw [rf, mi, if_pos (Or.inl h1)]; rfl, keep⟩
  · have g4 : (4 : Int32) ≤ a := h1
    have g3 : (3 : Int32) < a := Int32.lt_of_lt_of_le (by decide) g4
    have g0 : ¬ a < 0 := fun z => absurd (Int32.lt_trans g3 z) (by decide)
    exact ⟨-1, h, h, by rw [cl, if_neg g0, if_neg (Int32.not_lt.mpr g4)], by rw [rf, mi, if_pos (Or.inr g3)]; rfl, keep⟩
  have k31 : nI k < (4 : Int32) := (nI_lt hk (by decide) : nI k < nI 4)
  have k32 : ¬ (nI k < 0 ∨ (3 : Int32) < nI k) := fun z => z.elim (nI_pos (by omega)) (nI_nlt (a := 3) (b := k) (by omega) (by decide))
  have v01 : h.1 8 0 0 = 0 ∨ h.1 8 0 0 = 1 := by
    rw [hto.1]; exact hv.1
  obtain ⟨g, eg, s8, s6, s4, s37, s41, s29, s20, sI, sA⟩ := c_sceneCopy (h := h) (a := 1 + k) (b := 0) (by omega) v01
  obtain ⟨g1, eg1⟩ : ∃ g1, g1 = xsA g 45 0 (upd (g.2.2.2.1 45 0) k 1) := ⟨_, rfl⟩
  obtain ⟨g2, eg2⟩ : ∃ g2, g2 = xsA g1 69 0 (upd (g1.2.2.2.1 69 0) k 1) := ⟨_, rfl⟩
  obtain ⟨g3, eg3⟩ : ∃ g3, g3 = xsA g2 67 0 (upd (g2.2.2.2.1 67 0) k (g2.1 12 21 0)) := ⟨_, rfl⟩
  obtain ⟨g4, eg4⟩ : ∃ g4, g4 = xsA g3 68 0 (upd (g3.2.2.2.1 68 0) k (g3.1 12 22 0)) := ⟨_, rfl⟩
  obtain ⟨g5, eg5⟩ : ∃ g5, g5 = xsA g4 66 0 (imA (mS g4) (g4.2.2.2.1 66 0) k 101) := ⟨_, rfl⟩
  have i5 : g5.1 = g.1 := by rw [eg5, eg4, eg3, eg2, eg1]; rfl
  have eI : ∀ c z i, ¬ scF c i (1 + k) → g5.1 c z i = h.1 c z i := fun c z i hn => by rw [i5]; exact sI c z i hn
  have aA : ∀ f i, ¬ (i = 0 ∧ (f = 45 ∨ f = 66 ∨ f = 67 ∨ f = 68 ∨ f = 69)) → g5.2.2.2.1 f i = g.2.2.2.1 f i := fun f i hn => by rw [eg5, rdA_n (by omega), eg4, rdA_n (by omega), eg3, rdA_n (by omega), eg2, rdA_n (by omega), eg1, rdA_n (by omega)]
  have eA : ∀ f i, ¬ (i = 0 ∧ (f = 45 ∨ f = 66 ∨ f = 67 ∨ f = 68 ∨ f = 69)) → ¬ scA f i (1 + k) → g5.2.2.2.1 f i = h.2.2.2.1 f i := fun f i hn hm => (aA f i hn).trans (sA f i hm)
  have b45 : g5.2.2.2.1 45 0 = upd (h.2.2.2.1 45 0) k 1 := by
    rw [eg5, rdA_n (by omega), eg4, rdA_n (by omega), eg3, rdA_n (by omega), eg2, rdA_n (by omega), eg1, rdA_s, sA 45 0 (by unfold scA; omega)]
  have b69 : g5.2.2.2.1 69 0 = upd (h.2.2.2.1 69 0) k 1 := by
    rw [eg5, rdA_n (by omega), eg4, rdA_n (by omega), eg3, rdA_n (by omega), eg2, rdA_s, eg1, rdA_n (by omega), sA 69 0 (by unfold scA; omega)]
  have b67 : g5.2.2.2.1 67 0 = upd (h.2.2.2.1 67 0) k (h.1 12 21 0) := by
    rw [eg5, rdA_n (by omega), eg4, rdA_n (by omega), eg3, rdA_s, eg2, rdA_n (by omega), eg1, rdA_n (by omega), sA 67 0 (by unfold scA; omega)]
    show upd (h.2.2.2.1 67 0) k (g.1 12 21 0) = _
    rw [sI 12 21 0 (by unfold scF; omega)]
  have b68 : g5.2.2.2.1 68 0 = upd (h.2.2.2.1 68 0) k (h.1 12 22 0) := by
    rw [eg5, rdA_n (by omega), eg4, rdA_s, eg3, rdA_n (by omega), eg2, rdA_n (by omega), eg1, rdA_n (by omega), sA 68 0 (by unfold scA; omega)]
    show upd (h.2.2.2.1 68 0) k (g.1 12 22 0) = _
    rw [sI 12 22 0 (by unfold scF; omega)]
  have bS : mS g4 = mS h := by
    show g4.2.2.2.1 56 0 = h.2.2.2.1 56 0
    rw [eg4, rdA_n (by omega), eg3, rdA_n (by omega), eg2, rdA_n (by omega), eg1, rdA_n (by omega), sA 56 0 (by unfold scA; omega)]
  have b66 : g5.2.2.2.1 66 0 = imA (mS h) (h.2.2.2.1 66 0) k 101 := by
    rw [eg5, rdA_s, bS, eg4, rdA_n (by omega), eg3, rdA_n (by omega), eg2, rdA_n (by omega), eg1, rdA_n (by omega), sA 66 0 (by unfold scA; omega)]
  have b56 : g5.2.2.2.1 56 0 = h.2.2.2.1 56 0 := eA 56 0 (by omega) (by unfold scA; omega)
  refine ⟨mS h 10, g1, g5, ?_, ?_, R, hR, (eI 11 5 0 (by unfold scF; omega)).trans r1, (eI 12 2 0 (by unfold scF; omega)).trans r2, ⟨?_, ?_, fun j hj => ?_, n, m, c, ?_, ?_⟩, hQ h g5 R ⟨fun z i => eI 2 z i (by unfold scF; omega), funext fun i => eA 18 i (by omega) (by unfold scA; omega), funext fun i => eA 48 i (by omega) (by unfold scA; omega), fun j _ => by rw [eA 49 0 (by omega) (by unfold scA; omega)], funext fun i => eA 50 i (by omega) (by unfold scA; omega), funext fun i => eA 51 i (by omega) (by unfold scA; omega)⟩ hq⟩
  · have eg' : f_Scene_copyFrom (1 + (nI k).toNatClampNeg) 0 h = some g := by
      rw [nI_clamp (by omega)]; exact eg
    rw [cl, if_neg (nI_pos (by omega)), if_pos k31, if_pos (xibN hk (by decide)), eg', Option.bind_some, if_pos (xibN hk (by decide)), nI_clamp (by omega), ← eg1]
    have : g1.1 6 0 0 = mS h 10 := by
      rw [eg1]
      show g.1 6 0 0 = _
      rw [sI 6 0 0 (by unfold scF; omega)]
      exact hst.1
    rw [this]
  · rw [rf, mi, if_neg k32]
    show (if (1 : Int32) = 0 then some (-1, g1) else if xib (nI k) 4 then (if xib (nI k) 4 then (if xib (nI k) 4 then f_M_image_l43 (nI k) 0 (xsA (xsA (xsA g1 69 0 (upd (g1.2.2.2.1 69 0) (nI k).toNatClampNeg 1)) 67 0 (upd ((xsA g1 69 0 (upd (g1.2.2.2.1 69 0) (nI k).toNatClampNeg 1)).2.2.2.1 67 0) (nI k).toNatClampNeg ((xsA g1 69 0 (upd (g1.2.2.2.1 69 0) (nI k).toNatClampNeg 1)).1 12 21 0))) 68 0 (upd ((xsA (xsA g1 69 0 (upd (g1.2.2.2.1 69 0) (nI k).toNatClampNeg 1)) 67 0 (upd ((xsA g1 69 0 (upd (g1.2.2.2.1 69 0) (nI k).toNatClampNeg 1)).2.2.2.1 67 0) (nI k).toNatClampNeg ((xsA g1 69 0 (upd (g1.2.2.2.1 69 0) (nI k).toNatClampNeg 1)).1 12 21 0))).2.2.2.1 68 0) (nI k).toNatClampNeg ((xsA (xsA g1 69 0 (upd (g1.2.2.2.1 69 0) (nI k).toNatClampNeg 1)) 67 0 (upd ((xsA g1 69 0 (upd (g1.2.2.2.1 69 0) (nI k).toNatClampNeg 1)).2.2.2.1 67 0) (nI k).toNatClampNeg ((xsA g1 69 0 (upd (g1.2.2.2.1 69 0) (nI k).toNatClampNeg 1)).1 12 21 0))).1 12 22 0))) else none) else none) else none) = _
    rw [if_neg (by decide), if_pos (xibN hk (by decide)), if_pos (xibN hk (by decide)), if_pos (xibN hk (by decide)), nI_clamp (by omega), ← eg2, ← eg3, ← eg4, m_image43 hk, ← eg5, bS]
  · exact tpR_of (eI 7 6 0 (by unfold scF; omega)) (eI 12 1 0 (by unfold scF; omega)) (eA 33 0 (by omega) (by unfold scA; omega)) (eA 47 0 (by omega) (by unfold scA; omega)) ht
  · exact fxR_of (eI 4 2 0 (by unfold scF; omega)) (eI 4 3 0 (by unfold scF; omega)) (eI 12 21 0 (by unfold scF; omega)) (eI 12 22 0 (by unfold scF; omega)) hf
  · by_cases hjk : j = k
    · subst hjk
      refine ⟨by rw [b45, b69, pk_us, pk_us], Or.inr ⟨by rw [b69, pk_us], ⟨n, m, c, ?_⟩, ?_⟩⟩
      · refine scR_of (h := h) (i := 0) (fun z hz => by rw [i5]; exact s8 z hz) (fun z hz => by rw [i5]; exact s6 z hz) (by rw [i5]; exact s4.2.2) (fun f h1 h2 z hz => by rw [aA f _ (by omega)]; exact s37 f h1 h2 z hz) (fun z hz => by rw [aA 41 _ (by omega)]; exact s41 z hz) (fun f h1 h2 z hz => by rw [aA f _ (by omega)]; exact s29 f h1 h2 z hz) (fun f h1 z hz => by rw [aA f _ (by omega)]; exact s20 f h1 z hz) (fun t ht => ?_) hsc
        show g5.2.2.2.1 66 0 (101 * j + t) = _
        rw [b66]
        unfold imA
        rw [if_pos (by omega), show 101 * j + t - 101 * j = t by omega]
      · rw [b67, b68, pk_us, pk_us, i5, s4.1, s4.2.1]
        exact ⟨hf.1, hf.2.1, hf.2.2.1, hf.2.2.2⟩
    · refine imR_of (by rw [b45, pk_un hjk]) (by rw [b69, pk_un hjk]) (by rw [b67, pk_un hjk]) (by rw [b68, pk_un hjk]) (fun t ht => ?_) (fun c z hc => eI c z _ (by unfold scF; omega)) (fun f hf => eA f _ (by unfold scA at hf; omega) (by unfold scA; omega)) (him j hj)
      rw [b66]
      exact if_neg (by omega)
  · exact scR_of (fun z _ => eI 8 z 0 (by unfold scF; omega)) (fun z _ => eI 6 z 0 (by unfold scF; omega)) (eI 4 4 0 (by unfold scF; omega)) (fun f _ _ z _ => by rw [eA f 0 (by omega) (by unfold scA; omega)]) (fun z _ => by rw [eA 41 0 (by omega) (by unfold scA; omega)]) (fun f _ _ z _ => by rw [eA f 0 (by omega) (by unfold scA; omega)]) (fun f hf z _ => by rw [eA f 0 (by omega) (by unfold scA; omega)]) (fun t _ => by show g5.2.2.2.1 56 0 t = h.2.2.2.1 56 0 t; rw [b56]) hsc
  · exact paR_of (eI 1 1 0 (by unfold scF; omega)) (eI 1 2 0 (by unfold scF; omega)) (eI 12 24 0 (by unfold scF; omega)) (fun z i _ _ => eI 6 z i (by unfold scF; omega)) (fun f i _ _ _ _ => eA f i (by omega) (by unfold scA; omega)) (eA 57 0 (by omega) (by unfold scA; omega)) b56 hpa
