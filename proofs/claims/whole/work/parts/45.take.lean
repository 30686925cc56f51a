/-! PURE: one lifted, the class's side; take -/
theorem c_minT {h : xH} {w : Nat} (hw : w < 20000) : f_Math_min 9999 (nI w) h = some (nI (min 9999 w)) := by
  show (if nI w < 9999 then some (nI w) else some (9999 : Int32)) = _
  by_cases hu : w < 9999
  · rw [if_pos (show nI w < (9999 : Int32) from (nI_lt hu (by decide) : nI w < nI 9999)), Nat.min_eq_right (by omega)]
  · rw [if_neg (show ¬ nI w < (9999 : Int32) from (nI_nlt (by omega) (by omega) : ¬ nI w < nI 9999)), Nat.min_eq_left (by omega)]
    rfl
theorem c_lift {h : xH} {i n j z y : Nat} {V : Nat → Int32} (hs : stR h i V n) (h8 : n ≤ 8) (hj : j < n) (hin : vIn V j = true) (h1 : V 10 = nI z) (hz : z ≤ 9999) (h2 : V (44 + j) = nI y) (hy : y ≤ 40) : ∃ h1, f_State_lift i (nI j) (V 1) h = some h1 ∧ stR h1 i (liV V j) n ∧ (∀ c k i', ¬ (c = 6 ∧ i' = i) → h1.1 c k i' = h.1 c k i') ∧ (∀ f i', ¬ (f = 29 ∧ i' = i) → h1.2.2.2.1 f i' = h.2.2.2.1 f i') ∧ h1.2.1 = h.2.1 ∧ h1.2.2.1 = h.2.2.1 ∧ h1.2.2.2.2 = h.2.2.2.2 := by
  obtain ⟨s1, s2, s3, s4, s5⟩ := id hs
  have hlb : vLb V j = false := by
    unfold vIn at hin
    unfold vLb
    have : V (12 + j) = 0 := of_decide_eq_true hin
    rw [this]
    decide
  have x8 : xib (nI j) 8 := xibN (by omega) (by decide)
  have cj : (nI j).toNatClampNeg = j := nI_clamp (by omega)
  have e32 : h.2.2.2.1 32 i j = nI y := ((s5 j hj).2.2.2).trans h2
  have ep : f_State_pass i (nI y) h = some (xsI h 6 0 i (liT V j)) := by
    show (f_Math_min 9999 (h.1 6 0 i + nI y) h).bind (fun r1 => some (xsI h 6 0 i r1)) = _
    rw [s1, h1, nI_add, c_minT (by omega), liT_n h1 hz h2 hy]
    rfl
  have eb : ∀ g : xH, g.1 6 0 i = liT V j → f_State_lift_b53 i (nI j) g = some (xsA g 29 i (upd (g.2.2.2.1 29 i) j (liT V j))) := by
    intro g hg
    show (if xib (nI j) 8 then some (xsA g 29 i (upd (g.2.2.2.1 29 i) (nI j).toNatClampNeg (g.1 6 0 i))) else none) = _
    rw [if_pos x8, cj, hg]
  have b2 : nI (bs (vIn V) n) &&& (((1 : Int32) <<< (nI j &&& 31)) ^^^ (-1 : Int32)) = nI (bs (vIn (liV V j)) n) := by
    rw [sb_clr _ (bs_lt8 _ h8) j (by omega) (by rw [bs_in hj]; exact hin), bs_clr (p := vIn V) (q := vIn (liV V j)) (j := j) hin ?_ (fun k hk hn => ?_), if_pos hj]
    · unfold vIn
      rw [liV_12 (by omega)]
      by_cases q : V 1 < liT V j
      · rw [if_pos q]; decide
      · rw [if_neg q]; decide
    · unfold vIn
      rw [liV_o (by omega) (by omega) (by omega)]
  have tail : ∀ g : xH, g.1 6 0 i = liT V j → g.1 6 1 i = V 11 → g.1 6 2 i = nI (bs (vIn (liV V j)) n) → g.1 6 3 i = nI (bs (vLb (liV V j)) n) → g.2.2.2.1 = h.2.2.2.1 → stR (xsA g 29 i (upd (g.2.2.2.1 29 i) j (liT V j))) i (liV V j) n := by
    intro g a0 a1 a2 a3 a4
    refine ⟨by rw [liV_10]; exact a0, by rw [liV_o (by omega) (by omega) (by omega)]; exact a1, a2, a3, fun k hk => ?_⟩
    obtain ⟨d1, d2, d3, d4⟩ := s5 k hk
    rw [rdA_s, rdA_n (by omega), rdA_n (by omega), rdA_n (by omega), a4, liV_o (t := 36 + k) (by omega) (by omega) (by omega), liV_o (t := 28 + k) (by omega) (by omega) (by omega), liV_o (t := 44 + k) (by omega) (by omega) (by omega)]
    refine ⟨?_, d2, d3, d4⟩
    by_cases kj : k = j
    · subst kj
      rw [pk_us, liV_20]
    · rw [pk_un kj, liV_o (by omega) (by omega) (by omega)]
      exact d1
  have run : f_State_lift i (nI j) (V 1) h = (if V 1 < liT V j then some (xsA (xsI (xsI h 6 0 i (liT V j)) 6 2 i (nI (bs (vIn (liV V j)) n))) 29 i (upd (h.2.2.2.1 29 i) j (liT V j))) else some (xsA (xsI (xsI (xsI h 6 0 i (liT V j)) 6 2 i (nI (bs (vIn (liV V j)) n))) 6 3 i (nI (bs (vLb V) n) ||| ((1 : Int32) <<< (nI j &&& 31)))) 29 i (upd (h.2.2.2.1 29 i) j (liT V j)))) := by
    show (f_State_isIn i (nI j) h).bind (fun r1 => if r1 = 0 then some h else if xib (nI j) 8 then (f_State_pass i (h.2.2.2.1 32 i (nI j).toNatClampNeg) h).bind (fun h7 => if V 1 < (xsI h7 6 2 i (h7.1 6 2 i &&& (((1 : Int32) <<< (nI j &&& 31)) ^^^ (-1 : Int32)))).1 6 0 i then f_State_lift_b53 i (nI j) (xsI h7 6 2 i (h7.1 6 2 i &&& (((1 : Int32) <<< (nI j &&& 31)) ^^^ (-1 : Int32)))) else f_State_lift_b53 i (nI j) (xsI (xsI h7 6 2 i (h7.1 6 2 i &&& (((1 : Int32) <<< (nI j &&& 31)) ^^^ (-1 : Int32)))) 6 3 i ((xsI h7 6 2 i (h7.1 6 2 i &&& (((1 : Int32) <<< (nI j &&& 31)) ^^^ (-1 : Int32)))).1 6 3 i ||| ((1 : Int32) <<< (nI j &&& 31))))) else none) = _
    rw [c_isIn_in hs h8 hj, hin]
    show (if xib (nI j) 8 then _ else _) = _
    rw [if_pos x8, cj, e32, ep]
    show (if V 1 < (xsI (xsI h 6 0 i (liT V j)) 6 2 i ((xsI h 6 0 i (liT V j)).1 6 2 i &&& (((1 : Int32) <<< (nI j &&& 31)) ^^^ (-1 : Int32)))).1 6 0 i then f_State_lift_b53 i (nI j) (xsI (xsI h 6 0 i (liT V j)) 6 2 i ((xsI h 6 0 i (liT V j)).1 6 2 i &&& (((1 : Int32) <<< (nI j &&& 31)) ^^^ (-1 : Int32)))) else f_State_lift_b53 i (nI j) (xsI (xsI (xsI h 6 0 i (liT V j)) 6 2 i ((xsI h 6 0 i (liT V j)).1 6 2 i &&& (((1 : Int32) <<< (nI j &&& 31)) ^^^ (-1 : Int32)))) 6 3 i ((xsI (xsI h 6 0 i (liT V j)) 6 2 i ((xsI h 6 0 i (liT V j)).1 6 2 i &&& (((1 : Int32) <<< (nI j &&& 31)) ^^^ (-1 : Int32)))).1 6 3 i ||| ((1 : Int32) <<< (nI j &&& 31))))) = _
    have w2 : (xsI h 6 0 i (liT V j)).1 6 2 i &&& (((1 : Int32) <<< (nI j &&& 31)) ^^^ (-1 : Int32)) = nI (bs (vIn (liV V j)) n) := by
      rw [rdI (by decide), s3, b2]
    rw [w2]
    have w0 : (xsI (xsI h 6 0 i (liT V j)) 6 2 i (nI (bs (vIn (liV V j)) n))).1 6 0 i = liT V j := by rw [rdI (by decide), rdI_s]
    have w3 : (xsI (xsI h 6 0 i (liT V j)) 6 2 i (nI (bs (vIn (liV V j)) n))).1 6 3 i = nI (bs (vLb V) n) := by rw [rdI (by decide), rdI (by decide), s4]
    rw [eb _ w0, w0, w3, eb _ (by rw [rdI (by decide)]; exact w0)]
    rfl
  by_cases q : V 1 < liT V j
  · refine ⟨_, by rw [run, if_pos q]; rfl, tail (xsI (xsI h 6 0 i (liT V j)) 6 2 i (nI (bs (vIn (liV V j)) n))) (by rw [rdI (by decide), rdI_s]) (by rw [rdI (by decide), rdI (by decide), s2]) rdI_s ?_ rfl, fun c k i' hn => (rdI_n hn).trans (rdI_n hn), fun f i' hn => rdA_n hn, rfl, rfl, rfl⟩
    rw [rdI (by decide), rdI (by decide), s4]
    refine congrArg nI (bs_congr (fun k hk => ?_))
    by_cases kj : k = j
    · subst kj
      rw [hlb]
      unfold vLb
      rw [liV_12 (by omega), if_pos q]
      decide
    · unfold vLb
      rw [liV_o (by omega) (by omega) (by omega)]
  · refine ⟨_, by rw [run, if_neg q]; rfl, tail (xsI (xsI (xsI h 6 0 i (liT V j)) 6 2 i (nI (bs (vIn (liV V j)) n))) 6 3 i (nI (bs (vLb V) n) ||| ((1 : Int32) <<< (nI j &&& 31)))) (by rw [rdI (by decide), rdI (by decide), rdI_s]) (by rw [rdI (by decide), rdI (by decide), rdI (by decide), s2]) (by rw [rdI (by decide), rdI_s]) ?_ rfl, fun c k i' hn => (rdI_n hn).trans ((rdI_n hn).trans (rdI_n hn)), fun f i' hn => rdA_n hn, rfl, rfl, rfl⟩
    rw [rdI_s, sb_set _ (bs_lt8 _ h8) j (by omega) (by rw [bs_in hj]; exact hlb), bs_set (p := vLb V) (q := vLb (liV V j)) (j := j) hlb ?_ (fun k hk hn => ?_), if_pos hj]
    · unfold vLb
      rw [liV_12 (by omega), if_neg q]
      decide
    · unfold vLb
      rw [liV_o (by omega) (by omega) (by omega)]
variable {Q : xH → Nat → Prop}
/-- take -/
theorem p_take (hQ : qOk Q) : lI_take (jII Q) := by
  rintro a h ⟨R, hR, r1, r2, hj, hq⟩
  have keep : jII Q h := ⟨R, hR, r1, r2, hj, hq⟩
  obtain ⟨ht, hf, him, n, m, c, hsc, u, x, u20, x20, u1, u2, u3, up⟩ := id hj
  obtain ⟨hv, hto, hst, -, -⟩ := id hsc
  obtain ⟨v0, -, -, -, v3, n8, -, -, ⟨z, hz, v10⟩, v11, vk, -⟩ := id hv
  obtain ⟨g1, e1, s1, pa, hk⟩ := c_keep (V := mS h) (pa := paV h) n8 hst ⟨u20, x20, u1, u3, fun j hj => (up j hj).2⟩
  have hn : mN h n := ⟨v3, n8⟩
  have cl : f_B_take a h = (f_State_isLoose 0 a h).bind (fun r1 => if r1 = 0 then some (-1, h) else (f_Past_keep 0 h).bind (fun h6 => (f_State_lift 0 a (h6.1 8 1 0) h6).bind (fun h9 => some (h9.1 6 0 0, h9)))) := rfl
  have rf : ∀ h1 : xH, f_M_take a h1 = (f_M_isLoose a h1).bind (fun r1 => if r1 = 0 then some (-1, h1) else (f_M_keepsAct h1).bind (fun h6 => (f_M_lifts a h6).bind (fun h9 => some (mS h9 10, h9)))) := fun _ => rfl
  have out : (a < 0 ∨ nI n ≤ a) → ∃ r h1 h2, f_B_take a h = some (r, h1) ∧ f_M_take a h1 = some (r, h2) ∧ jII Q h2 := fun hk => ⟨-1, h, h, by rw [cl, c_isLoose_out hst n8 hk]; rfl, by rw [rf, m_isLoose_out hn hk]; rfl, keep⟩
  rcases pk_ix a (n := n) (by omega) with q | q | ⟨j, hj, rfl⟩
  · exact out (Or.inl q)
  · exact out (Or.inr q)
  have i1 : ∀ h1 : xH, mS h1 = mS h → f_M_isLoose (nI j) h1 = some (if vLoose (mS h) n j then 1 else 0) := by
    intro h1 e
    have hn1 : mN h1 n := ⟨by rw [e]; exact v3, n8⟩
    rw [m_isLoose_in hn1 hj, ← e]
    rfl
  have i2 := c_isLoose_in hst n8 hj
  cases hl : vLoose (mS h) n j
  · rw [hl] at i2
    have i1 := i1 h rfl
    rw [hl] at i1
    exact ⟨-1, h, h, by rw [cl, i2]; rfl, by rw [rf, i1]; rfl, keep⟩
  rw [hl] at i1 i2
  have hin : vIn (mS h) j = true := by
    unfold vLoose at hl
    exact (Bool.and_eq_true_iff.mp hl).1
  obtain ⟨y, -, hy, ey⟩ := (vk j hj).2.2.2.2.1
  obtain ⟨h1, el, s2, l1, l2, -⟩ := c_lift s1 n8 hj hin v10 hz ey hy
  have lt := liT_n v10 hz ey hy
  have hV : ∀ t, ¬ (10 ≤ t ∧ t < 44) → liV (mS h) j t = mS h t := fun t ht => liV_o (by omega) (by omega) (by omega)
  have hv' : vOk (liV (mS h) j) n m c := by
    refine vOk_of hV ⟨min 9999 (z + y), Nat.min_le_left _ _, by rw [liV_10]; exact lt⟩ (by rw [liV_o (by omega) (by omega) (by omega)]; exact v11) (fun k hk => ?_) hv
    obtain ⟨d1, d2, d3, d4, -⟩ := vk k hk
    rw [liV_o (t := 28 + k) (by omega) (by omega) (by omega), liV_o (t := 36 + k) (by omega) (by omega) (by omega)]
    refine ⟨?_, ?_, d3, d4⟩
    · by_cases kj : k = j
      · subst kj
        rw [liV_12 (by omega)]
        by_cases q : mS h 1 < liT (mS h) k
        · rw [if_pos q]; exact Or.inr (Or.inr rfl)
        · rw [if_neg q]; exact Or.inr (Or.inl rfl)
      · rw [liV_o (by omega) (by omega) (by omega)]
        exact d1
    · by_cases kj : k = j
      · subst kj
        rw [liV_20]
        exact Or.inr ⟨min 9999 (z + y), Nat.min_le_left _ _, lt⟩
      · rw [liV_o (by omega) (by omega) (by omega)]
        exact d2
  obtain ⟨eS, g2, e2, eS2, fin⟩ := act_all hQ hR r1 r2 hq ht hf him hsc u20 x20 u2 (fun j hj => (up j hj).1) hk pa (h1 := h1) l1 (fun f i hn => l2 f i (by omega)) s2 hV hv'
  have em : mS (xsA g2 56 0 (liV (mS g2) j)) = liV (mS h) j := by
    rw [← eS2]
    exact rdA_s
  have e8 : g1.1 8 1 0 = mS h 1 := by
    rw [hk.1 8 1 0 (by omega) (by decide)]
    exact hto.2.1
  refine ⟨liT (mS h) j, h1, xsA g2 56 0 (liV (mS g2) j), ?_, ?_, fin _ rfl (fun f i hn => rdA_n (by omega)) em⟩
  · rw [cl, i2]
    show (f_Past_keep 0 h).bind _ = _
    rw [e1]
    show (f_State_lift 0 (nI j) (g1.1 8 1 0) g1).bind _ = _
    rw [e8, el]
    show some (h1.1 6 0 0, h1) = _
    rw [s2.1, liV_10]
  · rw [rf, i1 h1 eS]
    show (f_M_keepsAct h1).bind _ = _
    rw [e2]
    show (f_M_lifts (nI j) g2).bind _ = _
    rw [m_lifts (by omega)]
    show some (mS (xsA g2 56 0 (liV (mS g2) j)) 10, _) = _
    rw [em, liV_10]
