/-! PURE: years, of the reference -/
theorem m_years90 {h0 g : xH} {n : Nat} {s : (Nat → Int32) × Nat} (v1 v2 v3 v4 v5 : Int32) (h8 : n ≤ 8) (es : s.1 = mS h0) (hw : mwR h0 g (mS h0) (yrI n s 8).1) (hv : wOk (yrI n s 8).1 n) (hX : g.2.1 12 36 0 = lN (yrI n s 8).2) : ∃ h2, f_M_years_b90 v1 v2 v3 v4 v5 g = some (Sum.inl (v3 + isum (fun k => (yrI n s 8).1 (52 + k)) (vLb (yrI n s 8).1) n, v4 + (yrI n s 8).1 10, v5 + 1, h2)) ∧ mwR h0 h2 (mS h0) (mS h0) ∧ h2.2.1 12 36 0 = lN (yrI n s 8).2 := by
  obtain ⟨w1, w2, w3, w4⟩ := id hw
  have hn : mN g n := ⟨by rw [w4]; exact hv.1, h8⟩
  have lb : f_M_laysBack g = some (xsA g 56 0 (mS h0)) := m_laysBack (V := mS h0) w3 (fun t ht => by rw [w4, yr_o h8 ht 8, es])
  refine ⟨xsA g 56 0 (mS h0), ?_, ⟨w1, fun f i p q => by rw [rdA_n p]; exact w2 f i p q, fun j hj => by rw [rdA_n (by decide)]; exact w3 j hj, rdA_s⟩, hX⟩
  unfold f_M_years_b90
  rw [m_letBe hn, Option.bind_some, w4]
  simp only [xlet_e]
  rw [lb, Option.bind_some]
  show some (Sum.inl (_, v4 + mS g 10, _, _)) = _
  rw [w4]
theorem m_years58 {h0 h : xH} {n : Nat} {s : (Nat → Int32) × Nat} (v1 v2 v3 v4 v5 : Int32) (es : s.1 = mS h0) (hw : mwR h0 h (mS h0) s.1) (hv : wOk s.1 n) (hx : s.2 < 2147483648) (hX : h.2.1 12 36 0 = lN s.2) : ∃ h2, f_M_years_l58 v1 v2 v3 v4 v5 h = some (Sum.inl (v3 + isum (fun k => (yrI n s 8).1 (52 + k)) (vLb (yrI n s 8).1) n, v4 + (yrI n s 8).1 10, v5 + 1, h2)) ∧ mwR h0 h2 (mS h0) (mS h0) ∧ h2.2.1 12 36 0 = lN (yrI n s 8).2 := by
  have h8 := hv.2.1
  have out : ∀ (g : xH) i, mwR h0 g (mS h0) (yrI n s i).1 → g.2.1 12 36 0 = lN (yrI n s i).2 → yrI n s 8 = yrI n s i → yrL (yrI n s i).1 n = 0 → ∃ x, f_M_years_s58 v1 v2 v3 v4 v5 g = some (Sum.inr x) ∧ ∃ h2, x = Sum.inl (v3 + isum (fun k => (yrI n s 8).1 (52 + k)) (vLb (yrI n s 8).1) n, v4 + (yrI n s 8).1 10, v5 + 1, h2) ∧ mwR h0 h2 (mS h0) (mS h0) ∧ h2.2.1 12 36 0 = lN (yrI n s 8).2 := by
    intro g i wg xg ef hL
    have hv8 := yr_ok (s := s) hv 8
    rw [← ef] at wg xg hL
    obtain ⟨h2, e2, m2, x2⟩ := m_years90 v1 v2 v3 v4 v5 h8 es wg hv8 xg
    have hn : mN g n := ⟨by rw [wg.2.2.2]; exact hv8.1, h8⟩
    have elo : f_M_looseOnes g = some (nI (yrL (yrI n s 8).1 n)) := by
      rw [m_looseOnes hn, mLoose_v, wg.2.2.2]
      rfl
    refine ⟨_, ?_, h2, rfl, m2, x2⟩
    unfold f_M_years_s58
    rw [elo, Option.bind_some, hL, if_pos nI_0, e2]
    rfl
  have key := whl_cntE (step := fun g : xH => f_M_years_s58 v1 v2 v3 v4 v5 g) 8 (fun i g => mwR h0 g (mS h0) (yrI n s i).1 ∧ g.2.1 12 36 0 = lN (yrI n s i).2) (fun x => ∃ h2, x = Sum.inl (v3 + isum (fun k => (yrI n s 8).1 (52 + k)) (vLb (yrI n s 8).1) n, v4 + (yrI n s 8).1 10, v5 + 1, h2) ∧ mwR h0 h2 (mS h0) (mS h0) ∧ h2.2.1 12 36 0 = lN (yrI n s 8).2) ?_ ?_ h ⟨hw, hX⟩
  · obtain ⟨x, e, h2, rfl, r⟩ := key
    exact ⟨h2, e, r⟩
  · rintro i hi g ⟨wg, xg⟩
    by_cases h0' : yrL (yrI n s i).1 n = 0
    · right
      refine out g i wg xg ?_ h0'
      have := yr_fix h0' (8 - i)
      rw [show i + (8 - i) = 8 by omega] at this
      exact this
    · left
      have hwi := yr_ok (s := s) hv i
      have hXi := yr_x (n := n) hx i
      have hL : yrL (yrI n s i).1 n < 256 := bs_lt8 _ h8
      have hp := yr_pos hL h0'
      have p8 := pc_le _ hL
      obtain ⟨hk, hin, hd⟩ := yr_k h8 h0'
      obtain ⟨w1, w2, w3, w4⟩ := id wg
      have hn : mN g n := ⟨by rw [w4]; exact hwi.1, h8⟩
      have elo : f_M_looseOnes g = some (nI (yrL (yrI n s i).1 n)) := by
        rw [m_looseOnes hn, mLoose_v, w4]
        rfl
      obtain ⟨g1, eg1⟩ : ∃ g1, g1 = xsL g 12 36 0 (lN (drX (yrI n s i).2)) := ⟨_, rfl⟩
      have g1S : mS g1 = (yrI n s i).1 := by rw [eg1]; exact w4
      have est : yrI n s (i + 1) = (liV (yrI n s i).1 (yrK (yrI n s i) n), drX (yrI n s i).2) := by
        show yrS n (yrI n s i) = _
        exact if_neg h0'
      have run : f_M_years_s58 v1 v2 v3 v4 v5 g = some (Sum.inl (xsA g1 56 0 (liV (mS g1) (yrK (yrI n s i) n)))) := by
        unfold f_M_years_s58
        rw [elo, Option.bind_some, if_neg (nI_ne0 (by omega) (by omega)), Option.bind_some, Option.bind_some, m_bits hL, Option.bind_some, m_draw xg hXi hL hp, Option.bind_some, ← eg1, m_nthOf hL hd, Option.bind_some]
        show (f_M_lifts (nI (yrK (yrI n s i) n)) g1).bind _ = _
        rw [m_lifts (by omega)]
        rfl
      refine ⟨_, run, ?_⟩
      rw [est]
      refine ⟨⟨fun c k j q => ?_, fun f j p q => ?_, fun j hj => ?_, ?_⟩, ?_⟩
      · show g1.1 c k j = _
        rw [eg1]; exact w1 c k j q
      · rw [rdA_n p, eg1]; exact w2 f j p q
      · rw [rdA_n (by decide), eg1]; exact w3 j hj
      · show (xsA g1 56 0 _).2.2.2.1 56 0 = _
        rw [rdA_s, g1S]
      · show g1.2.1 12 36 0 = _
        rw [eg1, rdL_s]
  · rintro g ⟨wg, xg⟩
    exact out g 8 wg xg rfl (yr_end hv)
theorem m_years52 {h0 h : xH} {n M X : Nat} (v2 : Int32) (hM : M ≤ 20) (hX : X < 2147483648) (hw : mwR h0 h (mS h0) (mS h0)) (hv : wOk (mS h0) n) (eX : h.2.1 12 36 0 = lN X) : ∃ h2, f_M_years_l52 (nI M) v2 0 0 0 h = some (if v2 = 0 then yrD (mS h0) n X M else yrM (mS h0) n X M, h2) ∧ mwR h0 h2 (mS h0) (mS h0) := by
  have key := whl_cntE (step := fun q : Int32 × Int32 × Int32 × xH => f_M_years_s52 (nI M) v2 q.1 q.2.1 q.2.2.1 q.2.2.2) M (fun y q => q.1 = yrD (mS h0) n X y ∧ q.2.1 = yrM (mS h0) n X y ∧ q.2.2.1 = nI y ∧ mwR h0 q.2.2.2 (mS h0) (mS h0) ∧ q.2.2.2.2.1 12 36 0 = lN (yrX (mS h0) n X y)) (fun x => ∃ h2, x = (if v2 = 0 then yrD (mS h0) n X M else yrM (mS h0) n X M, h2) ∧ mwR h0 h2 (mS h0) (mS h0)) ?_ ?_ (0, 0, 0, h) ⟨rfl, rfl, nI_0.symm, hw, eX⟩
  · obtain ⟨x, e, h2, rfl, f⟩ := key
    exact ⟨h2, e, f⟩
  · rintro y hy ⟨q1, q2, q3, g⟩ ⟨e1, e2, e3, wg, xg⟩
    have e1 : q1 = yrD (mS h0) n X y := e1
    have e2 : q2 = yrM (mS h0) n X y := e2
    have e3 : q3 = nI y := e3
    subst e1; subst e2; subst e3
    left
    obtain ⟨g2, eg2, w2, x2⟩ := m_years58 (h := g) (s := (mS h0, yrX (mS h0) n X y)) (nI M) v2 (yrD (mS h0) n X y) (yrM (mS h0) n X y) (nI y) rfl wg hv (yrX_lt hX y) xg
    refine ⟨(yrD (mS h0) n X (y + 1), yrM (mS h0) n X (y + 1), nI y + 1, g2), ?_, rfl, rfl, nI_1 y, w2, x2⟩
    show f_M_years_s52 (nI M) v2 (yrD (mS h0) n X y) (yrM (mS h0) n X y) (nI y) g = _
    unfold f_M_years_s52
    rw [if_neg (nI_ge hy (by omega)), eg2]
    rfl
  · rintro ⟨q1, q2, q3, g⟩ ⟨e1, e2, e3, wg, xg⟩
    have e1 : q1 = yrD (mS h0) n X M := e1
    have e2 : q2 = yrM (mS h0) n X M := e2
    have e3 : q3 = nI M := e3
    subst e1; subst e2; subst e3
    refine ⟨_, ?_, g, rfl, wg⟩
    show f_M_years_s52 (nI M) v2 (yrD (mS h0) n X M) (yrM (mS h0) n X M) (nI M) g = _
    unfold f_M_years_s52 f_M_years_b119
    rw [if_pos (Int32.le_refl _)]
    split <;> rfl
theorem mwR_J {h0 h2 : xH} (hw : mwR h0 h2 (mS h0) (mS h0)) : sameJ h0 h2 := by
  obtain ⟨w1, w2, w3, w4⟩ := hw
  refine ⟨fun c k i q => w1 c k i (by unfold jF at q; omega), fun f i q => ?_⟩
  by_cases e : f = 56 ∧ i = 0
  · obtain ⟨rfl, rfl⟩ := e
    exact w4
  · exact w2 f i e (by unfold jG at q; omega)
/-- years -/
theorem p_years : lI_years (jII Qr) := by
  intro a b h hj
  obtain ⟨n, m, c, rl, cs, hsc, hf, hf4, hc, hr, hn⟩ := ask_pre hj
  obtain ⟨hv, ht, hst, -, -⟩ := id hsc
  obtain ⟨v0, -⟩ := id hv
  have hfx : fxR h _ := hj.choose_spec.2.2.2.1.2.1
  obtain ⟨-, f2, -, f4⟩ := hfx
  have cl : f_B_years a b h = (if h.1 8 0 0 = 0 then some (-1, h) else if a < 1 then some (-1, h) else if a ≤ 20 then (if b < 0 then some (-1, h) else if b ≤ 1 then f_B_years_l51 a b 0 (h.1 4 3 0) 0 h else some (-1, h)) else some (-1, h)) := rfl
  have rf : ∀ h1 : xH, f_M_years a b h1 = (f_M_isTrug h1).bind (fun r1 => if r1 = 0 then some (-1, h1) else (f_M_in a.toInt64 1 20 h1).bind (fun r4 => if r4 = 0 then some (-1, h1) else (f_M_in b.toInt64 0 1 h1).bind (fun r7 => if r7 = 0 then some (-1, h1) else (f_M_keeps (xsL h1 12 36 0 (h1.1 12 22 0).toInt64)).bind (fun h13 => f_M_years_l52 a b 0 0 0 h13)))) := fun _ => rfl
  have mi : ∀ h1 : xH, f_M_in a.toInt64 1 20 h1 = some (if a < 1 ∨ 20 < a then 0 else 1) := fun h1 => m_in a 1 20 (by decide) (by decide)
  have mb : ∀ h1 : xH, f_M_in b.toInt64 0 1 h1 = some (if b < 0 ∨ 1 < b then 0 else 1) := fun h1 => m_in b 0 1 (by decide) (by decide)
  by_cases z : mS h 0 = 0
  · exact ⟨-1, h, h, by rw [cl, ht.1, if_pos z], by rw [rf, m_isTrug v0, Option.bind_some, if_pos z], hj⟩
  by_cases a0 : a < 1
  · exact ⟨-1, h, h, by rw [cl, ht.1, if_neg z, if_pos a0], by rw [rf, m_isTrug v0, Option.bind_some, if_neg z, mi, if_pos (Or.inl a0)]; rfl, hj⟩
  by_cases a1 : ¬ a ≤ 20
  · exact ⟨-1, h, h, by rw [cl, ht.1, if_neg z, if_neg a0, if_neg a1], by rw [rf, m_isTrug v0, Option.bind_some, if_neg z, mi, if_pos (Or.inr (Int32.not_le.mp a1))]; rfl, hj⟩
  have a1 : a ≤ 20 := Decidable.not_not.mp a1
  have am : ∀ h1 : xH, f_M_in a.toInt64 1 20 h1 = some 1 := fun h1 => by rw [mi, if_neg (fun y => y.elim a0 (Int32.not_lt.mpr a1))]
  by_cases b0 : b < 0
  · exact ⟨-1, h, h, by rw [cl, ht.1, if_neg z, if_neg a0, if_pos a1, if_pos b0], by rw [rf, m_isTrug v0, Option.bind_some, if_neg z, am, Option.bind_some, if_neg (by decide), mb, if_pos (Or.inl b0)]; rfl, hj⟩
  by_cases b1 : ¬ b ≤ 1
  · exact ⟨-1, h, h, by rw [cl, ht.1, if_neg z, if_neg a0, if_pos a1, if_neg b0, if_neg b1], by rw [rf, m_isTrug v0, Option.bind_some, if_neg z, am, Option.bind_some, if_neg (by decide), mb, if_pos (Or.inr (Int32.not_le.mp b1))]; rfl, hj⟩
  have b1 : b ≤ 1 := Decidable.not_not.mp b1
  obtain ⟨M, hM, rfl⟩ := of_in (N := 20) (by decide) (fun z => a0 (Int32.lt_trans z (by decide))) a1
  obtain ⟨X, hX, eX⟩ := nI_of (Int32.not_lt.mpr f4)
  have hw := wOk_v hv
  obtain ⟨g1, eg1, fg1⟩ := c_years51 b hM (show X < 2147483648 by omega) hw ht hst hc hf4 hn
  obtain ⟨eS, mf, mr⟩ := ask_mid fg1 hf hr
  have e22 : g1.1 12 22 0 = nI X := by
    rw [fg1.1 12 22 0 (by decide) (by decide)]; exact eX
  obtain ⟨k1, ek1, wk1⟩ := m_keepW (h := xsL g1 12 36 0 (g1.1 12 22 0).toInt64)
  have xk1 : k1.2.1 12 36 0 = lN X := by
    have : k1 = xsA (xsL g1 12 36 0 (g1.1 12 22 0).toInt64) 58 0 (kpA (mS (xsL g1 12 36 0 (g1.1 12 22 0).toInt64)) ((xsL g1 12 36 0 (g1.1 12 22 0).toInt64).2.2.2.1 58 0) 34) := Option.some.inj (ek1.symm.trans m_keeps)
    rw [this]
    show (xsL g1 12 36 0 (g1.1 12 22 0).toInt64).2.1 12 36 0 = _
    rw [rdL_s, e22, nI_l (by omega)]
  have eS' : mS (xsL g1 12 36 0 (g1.1 12 22 0).toInt64) = mS h := eS
  obtain ⟨k2, ek2, wk2⟩ := m_years52 b hM (show X < 2147483648 by omega) wk1 (by rw [eS']; exact hw) xk1
  have jk2 := mwR_J wk2
  rw [eS'] at ek2
  have jg : sameJ g1 (xsL g1 12 36 0 (g1.1 12 22 0).toInt64) := ⟨fun _ _ _ _ => rfl, fun _ _ _ => rfl⟩
  refine ⟨if b = 0 then yrD (mS h) n X M else yrM (mS h) n X M, g1, k2, ?_, ?_, sameJ_jII Qr_ok (sameJ_trans (wkF_J fg1) (sameJ_trans jg jk2)) hj⟩
  · rw [cl, ht.1, if_neg z, if_neg a0, if_pos a1, if_neg b0, if_pos b1, f2, eX]
    exact eg1
  · rw [rf, m_isTrug (by rw [eS]; exact v0), Option.bind_some, eS, if_neg z, am, Option.bind_some, if_neg (by decide), mb, if_neg (fun y => y.elim b0 (Int32.not_lt.mpr b1)), Option.bind_some, if_neg (by decide), ek1, Option.bind_some, ek2]
