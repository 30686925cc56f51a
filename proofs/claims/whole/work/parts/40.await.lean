/-! PURE: acts, both sides met; await -/
theorem act_all {Q : xH → Nat → Prop} (hQ : qOk Q) {h : xH} {R n m c u x : Nat} (hR : R ≤ 6) (r1 : h.1 11 5 0 = nI R) (r2 : h.1 12 2 0 = nI R) (hq : Q h R) (ht : tpR h) (hf : fxR h R) (him : ∀ k, k < 4 → imR h R k) (hsc : scR h 0 (mS h) n m c) (u20 : u ≤ 20) (x20 : x < 20) (h24 : h.1 12 24 0 = nI u) (hpo : ∀ j, j < u → vOk (paV h j) n m c) {g1 h1 : xH} (hk : kept h g1 x) (pa : paC g1 n (min 20 (u + 1)) ((x + 1) % 20) (paAdd u (paV h) (mS h))) (w1 : ∀ c k i, ¬ (c = 6 ∧ i = 0) → h1.1 c k i = g1.1 c k i) (w2 : ∀ f i, ¬ (29 ≤ f ∧ f ≤ 32 ∧ i = 0) → h1.2.2.2.1 f i = g1.2.2.2.1 f i) {V' : Nat → Int32} (s1 : stR h1 0 V' n) (hV : ∀ t, ¬ (10 ≤ t ∧ t < 44) → V' t = mS h t) (hv : vOk V' n m c) : (mS h1 = mS h) ∧ ∃ g2, f_M_keepsAct h1 = some g2 ∧ mS g2 = mS h ∧ ∀ h2 : xH, h2.1 = g2.1 → (∀ f i, ¬ f = 56 → h2.2.2.2.1 f i = g2.2.2.2.1 f i) → mS h2 = V' → jII Q h2 := by
  obtain ⟨k1, k2, -⟩ := hk
  have hC : acC h h1 := ⟨fun c k i a b => (w1 c k i (by omega)).trans (k1 c k i (by omega) b), fun k i a b => (w1 6 k i (by omega)).trans (k1 6 k i (by omega) (by decide)), fun f i a => (w2 f i (by omega)).trans (k2 f i (by omega))⟩
  have eS : mS h1 = mS h := by
    funext t
    show h1.2.2.2.1 56 0 t = h.2.2.2.1 56 0 t
    rw [hC.2.2 56 0 (by omega)]
  have eP : paV h1 = paV h := by
    funext j t
    unfold paV
    rw [eS, hC.2.2 57 0 (by omega)]
  obtain ⟨g2, e2, q1, q2, q3, q4, -⟩ := m_keepsAct (h := h1) (u := u) (by rw [hC.1 12 24 0 (by decide) (by decide)]; exact h24) u20
  have eS2 : mS g2 = mS h := by
    funext t
    show g2.2.2.2.1 56 0 t = _
    rw [q4 56 0 (by decide)]
    exact congrFun eS t
  refine ⟨eS, g2, e2, eS2, fun h2 a1 a2 a3 => ?_⟩
  have hM : acM h1 h2 := ⟨fun c k i hn => by rw [a1]; exact q3 c k i hn, fun f i b1 b2 => (a2 f i b2).trans (q4 f i b1)⟩
  refine act_jII hQ hR r1 r2 hq hC hM ?_
  obtain ⟨p20, px, p2, p1, pj⟩ := pa
  refine act_jI (PA := paAdd u (paV h) (mS h)) ht hf him hsc hv hV hC s1 ⟨p20, px, by rw [w1 1 2 0 (by decide)]; exact p2, by rw [w1 1 1 0 (by decide)]; exact p1, fun j hj => ?_⟩ hM a3 (by rw [a1]; exact q1) (fun j hj => ?_) (paAdd_ok u20 hsc.1 hpo)
  · exact stR_of (fun k _ => w1 6 k _ (by omega)) (fun f b1 b2 k _ => by rw [w2 f _ (by omega)]) (pj j hj)
  · have e := q2 j hj
    rw [eP, eS] at e
    rw [← e]
    funext t
    unfold paV
    by_cases ht : 10 ≤ t ∧ t < 44
    · rw [if_pos ht, if_pos ht, a2 57 0 (by decide)]
    · rw [if_neg ht, if_neg ht, a3, eS2]
      exact hV t ht
theorem vOk_of {V W : Nat → Int32} {n m c : Nat} (hV : ∀ t, ¬ (10 ≤ t ∧ t < 44) → W t = V t) (h10 : ∃ z, z ≤ 9999 ∧ W 10 = nI z) (h11 : ∃ z, z ≤ 999 ∧ W 11 = nI z) (hk : ∀ k, k < n → (W (12 + k) = 0 ∨ W (12 + k) = 1 ∨ W (12 + k) = 2) ∧ (W (20 + k) = -1 ∨ ∃ z, z ≤ 9999 ∧ W (20 + k) = nI z) ∧ (∃ z, 1 ≤ z ∧ z ≤ 20 ∧ W (28 + k) = nI z) ∧ (∃ z, z < 2 ^ n ∧ W (36 + k) = nI z)) (hv : vOk V n m c) : vOk W n m c := by
  obtain ⟨a0, a1, a2, a3, a4, n8, a5, m4, -, -, a6, a7, a8, c10, a9⟩ := hv
  refine ⟨by rw [hV 0 (by omega)]; exact a0, by rw [hV 0 (by omega)]; exact a1, by rw [hV 1 (by omega)]; exact a2, by rw [hV 2 (by omega)]; exact a3, by rw [hV 3 (by omega)]; exact a4, n8, by rw [hV 4 (by omega)]; exact a5, m4, h10, h11, fun k hkn => ?_, fun k hkm => by rw [hV (60 + k) (by omega)]; exact a7 k hkm, by rw [hV 100 (by omega)]; exact a8, c10, fun j hj => by rw [hV (80 + 2 * j) (by omega), hV (81 + 2 * j) (by omega)]; exact a9 j hj⟩
  obtain ⟨b1, b2, b3, b4⟩ := hk k hkn
  obtain ⟨-, -, -, -, d1, d2, d3, d4⟩ := a6 k hkn
  refine ⟨b1, b2, b3, b4, ?_, ?_, ?_, ?_⟩
  · rw [hV (44 + k) (by omega)]; exact d1
  · rw [hV (52 + k) (by omega)]; exact d2
  · rw [hV (64 + k) (by omega)]; exact d3
  · rw [hV (72 + k) (by omega)]; exact d4
theorem m_in {h : xH} (a lo hi : Int32) {L H : Int64} (hL : L = lo.toInt64) (hH : H = hi.toInt64) : f_M_in a.toInt64 L H h = some (if a < lo ∨ hi < a then 0 else 1) := by
  show (if lg_cmp a.toInt64 L < 0 then some 0 else if 0 < lg_cmp a.toInt64 H then some 0 else some 1) = _
  have e1 : (lg_cmp a.toInt64 L < 0) ↔ a < lo := by rw [lg_cmp_lt, hL, Int64.lt_iff_toInt_lt, Int32.lt_iff_toInt_lt, Int32.toInt_toInt64, Int32.toInt_toInt64]
  have e2 : (0 < lg_cmp a.toInt64 H) ↔ hi < a := by rw [lg_cmp_gt, hH, Int64.lt_iff_toInt_lt, Int32.lt_iff_toInt_lt, Int32.toInt_toInt64, Int32.toInt_toInt64]
  by_cases p : a < lo
  · rw [if_pos (e1.mpr p), if_pos (Or.inl p)]
  · rw [if_neg (fun z => p (e1.mp z))]
    by_cases q : hi < a
    · rw [if_pos (e2.mpr q), if_pos (Or.inr q)]
    · rw [if_neg (fun z => q (e2.mp z)), if_neg (fun z => z.elim p q)]
theorem c_min9 {h : xH} {w : Nat} (hw : w ≤ 9999) : f_Math_min 9999 (nI w) h = some (nI w) := by
  show (if nI w < 9999 then some (nI w) else some (9999 : Int32)) = _
  by_cases hu : w < 9999
  · rw [if_pos (show nI w < (9999 : Int32) from (nI_lt hu (by decide) : nI w < nI 9999))]
  · rw [if_neg (show ¬ nI w < (9999 : Int32) from (nI_nlt (by omega) (by omega) : ¬ nI w < nI 9999)), show w = 9999 by omega]
    rfl
variable {Q : xH → Nat → Prop}
/-- await -/
theorem p_await (hQ : qOk Q) : lI_await (jII Q) := by
  rintro a h ⟨R, hR, r1, r2, hj, hq⟩
  have keep : jII Q h := ⟨R, hR, r1, r2, hj, hq⟩
  obtain ⟨ht, hf, him, n, m, c, hsc, u, x, u20, x20, u1, u2, u3, up⟩ := id hj
  obtain ⟨hv, hto, hst, -, -⟩ := id hsc
  obtain ⟨v0, -, -, -, v3, n8, -, -, ⟨z, hz, v10⟩, v11, vk, -⟩ := id hv
  obtain ⟨g1, e1, s1, pa, hk⟩ := c_keep (V := mS h) (pa := paV h) n8 hst ⟨u20, x20, u1, u3, fun j hj => (up j hj).2⟩
  have t0 : h.1 8 0 0 = mS h 0 := hto.1
  have t10 : h.1 6 0 0 = nI z := hst.1.trans v10
  have cl : f_B_await a h = (if mS h 0 = 0 then some (-1, h) else if a < 1 then some (-1, h) else if a ≤ 60 then (if nI z + a ≤ 9999 then (f_State_pass 0 a g1).bind (fun h10 => some (h10.1 6 0 0, h10)) else some (-1, h)) else some (-1, h)) := by
    show (if h.1 8 0 0 = 0 then some (-1, h) else if a < 1 then some (-1, h) else if a ≤ 60 then (if h.1 6 0 0 + a ≤ 9999 then (f_Past_keep 0 h).bind (fun h7 => (f_State_pass 0 a h7).bind (fun h10 => some (h10.1 6 0 0, h10))) else some (-1, h)) else some (-1, h)) = _
    rw [t0, t10, e1]
    rfl
  have rf : ∀ h1 : xH, f_M_await a h1 = (if mS h1 0 = 1 then (if a < 1 ∨ 60 < a then some (-1, h1) else if mS h1 10 + a ≤ 9999 then (f_M_keepsAct h1).bind (fun h10 => (f_M_goesBy a h10).bind (fun h13 => some (mS h13 10, h13))) else some (-1, h1)) else some (-1, h1)) := by
    intro h1
    show (if mS h1 0 = 1 then some (1 : Int32) else some 0).bind (fun r1 => if r1 = 0 then some (-1, h1) else (f_M_in a.toInt64 1 60 h1).bind (fun r4 => if r4 = 0 then some (-1, h1) else if mS h1 10 + a ≤ 9999 then (f_M_keepsAct h1).bind (fun h10 => (f_M_goesBy a h10).bind (fun h13 => some (mS h13 10, h13))) else some (-1, h1))) = _
    by_cases p0 : mS h1 0 = 1
    · rw [if_pos p0, if_pos p0]
      show (f_M_in a.toInt64 1 60 h1).bind _ = _
      rw [m_in a 1 60 (by decide) (by decide)]
      by_cases p1 : a < 1 ∨ 60 < a
      · rw [if_pos p1, if_pos p1]; rfl
      · rw [if_neg p1, if_neg p1]; rfl
    · rw [if_neg p0, if_neg p0]; rfl
  rcases v0 with v0 | v0
  · exact ⟨-1, h, h, by rw [cl, if_pos v0], by rw [rf, if_neg (by rw [v0]; decide)], keep⟩
  by_cases a1 : a < 1
  · exact ⟨-1, h, h, by rw [cl, if_neg (by rw [v0]; decide), if_pos a1], by rw [rf, if_pos v0, if_pos (Or.inl a1)], keep⟩
  by_cases a60 : a ≤ 60
  · have a0 : ¬ a < 0 := fun z => a1 (Int32.lt_trans z (by decide))
    obtain ⟨y, hy, ea⟩ := nI_of2 (M := 60) (n := 60) (by decide) a0 a60
    have n60 : ¬ (a < 1 ∨ 60 < a) := fun z => z.elim a1 (fun q => absurd q (Int32.not_lt.mpr a60))
    by_cases a9 : nI z + a ≤ 9999
    · have hw : z + y ≤ 9999 := by
        rw [ea, nI_add] at a9
        apply Nat.le_of_not_lt
        intro q
        exact nI_ge (a := 9999) q (by omega) a9
      have esum : nI z + a = nI (z + y) := by rw [ea, nI_add]
      have g10 : g1.1 6 0 0 = nI z := s1.1.trans v10
      have ep : f_State_pass 0 a g1 = some (xsI g1 6 0 0 (nI (z + y))) := by
        show (f_Math_min 9999 (g1.1 6 0 0 + a) g1).bind (fun r1 => some (xsI g1 6 0 0 r1)) = _
        rw [g10, esum, c_min9 hw]
        rfl
      have hV : ∀ t, t ≠ 10 → upd (mS h) 10 (nI (z + y)) t = mS h t := fun t ht => pk_un ht
      have s2 : stR (xsI g1 6 0 0 (nI (z + y))) 0 (upd (mS h) 10 (nI (z + y))) n := by
        obtain ⟨b1, b2, b3, b4, b5⟩ := s1
        refine ⟨by rw [rdI_s, pk_us], by rw [rdI (by decide), hV 11 (by decide)]; exact b2, ?_, ?_, fun k hk => ?_⟩
        · rw [rdI (by decide), b3]
          exact congrArg nI (bs_congr (fun k hk => by unfold vIn; rw [hV (12 + k) (by omega)]))
        · rw [rdI (by decide), b4]
          exact congrArg nI (bs_congr (fun k hk => by unfold vLb; rw [hV (12 + k) (by omega)]))
        · rw [hV (20 + k) (by omega), hV (36 + k) (by omega), hV (28 + k) (by omega), hV (44 + k) (by omega)]
          exact b5 k hk
      have hv' : vOk (upd (mS h) 10 (nI (z + y))) n m c := by
        refine vOk_of (fun t ht => hV t (by omega)) ⟨z + y, hw, pk_us⟩ (by rw [hV 11 (by decide)]; exact v11) (fun k hk => ?_) hv
        rw [hV (12 + k) (by omega), hV (20 + k) (by omega), hV (28 + k) (by omega), hV (36 + k) (by omega)]
        obtain ⟨b1, b2, b3, b4, -⟩ := vk k hk
        exact ⟨b1, b2, b3, b4⟩
      obtain ⟨eS, g2, e2, eS2, fin⟩ := act_all hQ hR r1 r2 hq ht hf him hsc u20 x20 u2 (fun j hj => (up j hj).1) hk pa (h1 := xsI g1 6 0 0 (nI (z + y))) (fun c k i hn => rdI_n hn) (fun f i hn => rfl) s2 (fun t ht => hV t (by omega)) hv'
      have eg : f_M_goesBy a g2 = some (xsA g2 56 0 (upd (mS g2) 10 (nI (z + y)))) := by
        show (if mS g2 10 + a ≤ 9999 then (if xib 10 101 then some (xsA g2 56 0 (upd (mS g2) 10 (mS g2 10 + a))) else none) else _) = _
        rw [eS2, v10, if_pos a9, if_pos (show xib (10 : Int32) 101 from xibN (j := 10) (n := 101) (by decide) (by decide)), esum]
      have em : mS (xsA g2 56 0 (upd (mS g2) 10 (nI (z + y)))) = upd (mS h) 10 (nI (z + y)) := by
        rw [← eS2]
        exact rdA_s
      refine ⟨nI (z + y), xsI g1 6 0 0 (nI (z + y)), xsA g2 56 0 (upd (mS g2) 10 (nI (z + y))), ?_, ?_, fin _ rfl (fun f i hn => rdA_n (by omega)) em⟩
      · rw [cl, if_neg (by rw [v0]; decide), if_neg a1, if_pos a60, if_pos a9, ep]
        show some ((xsI g1 6 0 0 (nI (z + y))).1 6 0 0, _) = _
        rw [rdI_s]
      · rw [rf, eS, if_pos v0, if_neg n60, v10, if_pos a9, e2]
        show (f_M_goesBy a g2).bind _ = _
        rw [eg]
        show some (mS (xsA g2 56 0 (upd (mS g2) 10 (nI (z + y)))) 10, _) = _
        rw [em, pk_us]
    · exact ⟨-1, h, h, by rw [cl, if_neg (by rw [v0]; decide), if_neg a1, if_pos a60, if_neg a9], by rw [rf, if_pos v0, if_neg n60, v10, if_neg a9], keep⟩
  · exact ⟨-1, h, h, by rw [cl, if_neg (by rw [v0]; decide), if_neg a1, if_neg a60], by rw [rf, if_pos v0, if_pos (Or.inr (Int32.not_le.mp a60))], keep⟩
