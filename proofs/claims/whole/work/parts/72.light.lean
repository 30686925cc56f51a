/-! PURE: light -/
def loV (W : Nat → Int32) (n : Nat) : Int32 := isum (fun k => W (28 + k)) (vIn W) n + W 2
/-- the first of so many steps ahead of which it is light enough -/
def isL (L : Nat → Int32) (w r : Int32) : Prop := (∃ i, i ≤ 100 ∧ r = nI i ∧ ¬ w < L i ∧ ∀ j, j < i → w < L j) ∨ (r = -2 ∧ ∀ j, j ≤ 100 → w < L j)
theorem isL_u {L : Nat → Int32} {w r r' : Int32} (a : isL L w r) (b : isL L w r') : r = r' := by
  rcases a with ⟨i, hi, e, n1, l1⟩ | ⟨e, l1⟩
  · rcases b with ⟨i', hi', e', n2, l2⟩ | ⟨e', l2⟩
    · have : i = i' := by
        rcases Nat.lt_trichotomy i i' with q | q | q
        · exact absurd (l2 i q) n1
        · exact q
        · exact absurd (l1 i' q) n2
      rw [e, e', this]
    · exact absurd (l2 i hi) n1
  · rcases b with ⟨i', hi', e', n2, l2⟩ | ⟨e', l2⟩
    · exact absurd (l1 i' hi') n2
    · rw [e, e']
theorem c_light32 {h : xH} {n : Nat} {V : Nat → Int32} {rl : Option Nat} {cs : List Cl} (w : Int32) (hw : wkA h V n rl cs) : ∃ r h2, f_B_light_l32 w 0 h = some (r, h2) ∧ isL (fun i => loV (wlk V n rl cs i) n) w r ∧ wkF h h2 := by
  have ld : ∀ (g : xH) (W : Nat → Int32), wkA g W n rl cs → f_State_load 25 (g.1 8 2 0) g = some (loV W n) := by
    rintro g W ⟨⟨st, ⟨s1, s2, -, -, -⟩, -⟩, hv, -⟩
    rw [s2.2.1, c_load s1 hv.2.1, Int32.add_comm]
    rfl
  have key := whl_cntE (step := fun s : Int32 × xH => f_B_light_s32 w s.1 s.2) 100 (fun k s => s.1 = nI k ∧ wkA s.2 (wlk V n rl cs k) n rl cs ∧ wkF h s.2 ∧ ∀ j, j < k → w < loV (wlk V n rl cs j) n) (fun x => ∃ r h2, x = (r, h2) ∧ isL (fun i => loV (wlk V n rl cs i) n) w r ∧ wkF h h2) ?_ ?_ (0, h) ⟨nI_0.symm, hw, wkF_refl h, fun j hj => absurd hj (by omega)⟩
  · obtain ⟨x, e, r, h2, rfl, q⟩ := key
    exact ⟨r, h2, e, q⟩
  · rintro k hk ⟨q1, g⟩ ⟨e1, wg, f, l⟩
    have e1 : q1 = nI k := e1
    subst e1
    obtain ⟨g2, e2, w2, f2⟩ := c_goOn (h := g) wg
    have st : f_B_light_s32 w (nI k) g = (if w < loV (wlk V n rl cs k) n then some (Sum.inl (nI (k + 1), g2)) else some (Sum.inr (nI k, g))) := by
      unfold f_B_light_s32
      rw [if_neg (show ¬ (100 : Int32) ≤ nI k from nI_ge (b := 100) hk (by decide)), ld g _ wg, Option.bind_some, e2, Option.bind_some, ← nI_1]
      rfl
    by_cases c : w < loV (wlk V n rl cs k) n
    · left
      refine ⟨_, st.trans (if_pos c), rfl, w2, wkF_trans f f2, fun j hj => ?_⟩
      by_cases e : j = k
      · subst e; exact c
      · exact l j (by omega)
    · right
      exact ⟨_, st.trans (if_neg c), _, g, rfl, Or.inl ⟨k, by omega, rfl, c, l⟩, f⟩
  · rintro ⟨q1, g⟩ ⟨e1, wg, f, l⟩
    have e1 : q1 = nI 100 := e1
    subst e1
    show ∃ x, f_B_light_s32 w (nI 100) g = some (Sum.inr x) ∧ _
    unfold f_B_light_s32 f_B_light_b78
    rw [if_pos (show (100 : Int32) ≤ nI 100 by decide), ld g _ wg, Option.bind_some]
    by_cases c : w < loV (wlk V n rl cs 100) n
    · rw [if_pos c]
      refine ⟨_, rfl, _, g, rfl, Or.inr ⟨rfl, fun j hj => ?_⟩, f⟩
      by_cases e : j = 100
      · subst e; exact c
      · exact l j (by omega)
    · rw [if_neg c]
      exact ⟨_, rfl, _, g, rfl, Or.inl ⟨100, by omega, rfl, c, l⟩, f⟩
theorem m_light30 {h0 h : xH} {n : Nat} {rl : Option Nat} {cs : List Cl} (w : Int32) (hw : mwR h0 h (mS h0) (mS h0)) (hv : wOk (mS h0) n) (hf : h0.1 12 21 0 = oI rl) (hr : ∀ r, rl = some r → r < 6 ∧ mcR h0 r 0 0 cs) : ∃ r h2, f_M_light_l30 w (-2) 0 h = some (r, h2) ∧ isL (fun i => loV (wlk (mS h0) n rl cs i) n) w r ∧ sameJ h0 h2 := by
  have h8 := hv.2.1
  have bk : ∀ (g : xH) k r, mwR h0 g (mS h0) (wlk (mS h0) n rl cs k) → ∃ h2, f_M_light_b61 r g = some (r, h2) ∧ sameJ h0 h2 := by
    intro g k r wg
    obtain ⟨h2, e2, j2, -⟩ := m_backW wg (fun t ht => wlk_o h8 ht k)
    refine ⟨h2, ?_, j2⟩
    show (f_M_laysBack g).bind (fun h13 => some (r, h13)) = _
    rw [e2]
    rfl
  have key := whl_cntE (step := fun s : Int32 × Int32 × xH => f_M_light_s30 w s.1 s.2.1 s.2.2) 101 (fun k s => s.2.1 = nI k ∧ mwR h0 s.2.2 (mS h0) (wlk (mS h0) n rl cs k) ∧ ((s.1 = -2 ∧ ∀ j, j < k → w < loV (wlk (mS h0) n rl cs j) n) ∨ (∃ i, i ≤ 100 ∧ s.1 = nI i ∧ ¬ w < loV (wlk (mS h0) n rl cs i) n ∧ ∀ j, j < i → w < loV (wlk (mS h0) n rl cs j) n))) (fun x => ∃ r h2, x = (r, h2) ∧ isL (fun i => loV (wlk (mS h0) n rl cs i) n) w r ∧ sameJ h0 h2) ?_ ?_ (-2, 0, h) ⟨nI_0.symm, hw, Or.inl ⟨rfl, fun j hj => absurd hj (by omega)⟩⟩
  · obtain ⟨x, e, r, h2, rfl, q⟩ := key
    exact ⟨r, h2, e, q⟩
  · rintro k hk ⟨q1, q2, g⟩ ⟨e2, wg, cs'⟩
    have e2 : q2 = nI k := e2
    subst e2
    have n1 : ¬ (100 : Int32) < nI k := nI_nlt (a := 100) (by omega) (by decide)
    rcases cs' with ⟨e1, l⟩ | ⟨i, hi, e1, l1, l2⟩
    · have e1 : q1 = -2 := e1
      subst e1
      left
      have eW := wg.2.2.2
      have wo : wOk (wlk (mS h0) n rl cs k) n := wlk_ok hv k
      have hn : mN g n := ⟨by rw [eW]; exact wo.1, h8⟩
      have el : f_M_loadNow g = some (loV (wlk (mS h0) n rl cs k) n) := by
        rw [m_loadNow hn, eW]
        rfl
      obtain ⟨g2, e2, w2⟩ := m_passW (h' := g) wg wo hf hr
      show ∃ s', f_M_light_s30 w (-2) (nI k) g = some (Sum.inl s') ∧ _
      unfold f_M_light_s30 f_M_light_b50
      rw [if_neg n1, if_neg (by decide), el, Option.bind_some, e2, Option.bind_some]
      by_cases c : w < loV (wlk (mS h0) n rl cs k) n
      · rw [if_pos c]
        refine ⟨_, rfl, nI_1 k, w2, Or.inl ⟨rfl, fun j hj => ?_⟩⟩
        by_cases e : j = k
        · subst e; exact c
        · exact l j (by omega)
      · rw [if_neg c]
        exact ⟨_, rfl, nI_1 k, w2, Or.inr ⟨k, by omega, rfl, c, l⟩⟩
    · have e1 : q1 = nI i := e1
      subst e1
      right
      obtain ⟨h2, e2, j2⟩ := bk g k (nI i) wg
      refine ⟨_, ?_, nI i, h2, rfl, Or.inl ⟨i, hi, rfl, l1, l2⟩, j2⟩
      show f_M_light_s30 w (nI i) (nI k) g = _
      unfold f_M_light_s30
      rw [if_neg n1, if_pos (Int32.not_lt.mp (nI_pos (by omega))), e2]
      rfl
  · rintro ⟨q1, q2, g⟩ ⟨e2, wg, cs'⟩
    have e2 : q2 = nI 101 := e2
    subst e2
    obtain ⟨h2, e2, j2⟩ := bk g 101 q1 wg
    refine ⟨_, ?_, q1, h2, rfl, ?_, j2⟩
    · show f_M_light_s30 w q1 (nI 101) g = _
      unfold f_M_light_s30
      rw [if_pos (by decide), e2]
      rfl
    · rcases cs' with ⟨e1, l⟩ | ⟨i, hi, e1, l1, l2⟩
      · exact Or.inr ⟨e1, fun j hj => l j (by omega)⟩
      · exact Or.inl ⟨i, hi, e1, l1, l2⟩
/-- light -/
theorem p_light : lI_light (jII Qr) := by
  intro v h hj
  obtain ⟨n, m, c, rl, cs, hsc, hf, hf4, hc, hr, hn⟩ := ask_pre hj
  obtain ⟨hv, ht, hst, -, -⟩ := id hsc
  obtain ⟨v0, -⟩ := id hv
  have cl : f_B_light v h = (if h.1 8 0 0 = 0 then some (-1, h) else if v < 0 then some (-1, h) else if v ≤ 200 then (f_B_startNow h).bind (fun h6 => f_B_light_l32 v 0 h6) else some (-1, h)) := rfl
  have rf : ∀ h1 : xH, f_M_light v h1 = (f_M_isTrug h1).bind (fun r1 => if r1 = 0 then some (-1, h1) else (f_M_in v.toInt64 0 200 h1).bind (fun r4 => if r4 = 0 then some (-1, h1) else (f_M_keeps h1).bind (fun h9 => f_M_light_l30 v (-2) 0 h9))) := fun _ => rfl
  have mi : ∀ h1 : xH, f_M_in v.toInt64 0 200 h1 = some (if v < 0 ∨ 200 < v then 0 else 1) := fun h1 => m_in v 0 200 (by decide) (by decide)
  by_cases z : mS h 0 = 0
  · exact ⟨-1, h, h, by rw [cl, ht.1, if_pos z], by rw [rf, m_isTrug v0, Option.bind_some, if_pos z], hj⟩
  by_cases a0 : v < 0
  · exact ⟨-1, h, h, by rw [cl, ht.1, if_neg z, if_pos a0], by rw [rf, m_isTrug v0, Option.bind_some, if_neg z, mi, if_pos (Or.inl a0)]; rfl, hj⟩
  by_cases a1 : ¬ v ≤ 200
  · exact ⟨-1, h, h, by rw [cl, ht.1, if_neg z, if_neg a0, if_neg a1], by rw [rf, m_isTrug v0, Option.bind_some, if_neg z, mi, if_pos (Or.inr (Int32.not_le.mp a1))]; rfl, hj⟩
  have a1 : v ≤ 200 := Decidable.not_not.mp a1
  obtain ⟨g, eg, wg, fg⟩ := ask_start hsc hf4 hc hn
  obtain ⟨r, g1, eg1, ir, fg1⟩ := c_light32 v wg
  have f1 := wkF_trans fg fg1
  obtain ⟨eS, mf, mr⟩ := ask_mid f1 hf hr
  have hw := wOk_v hv
  obtain ⟨k1, ek1, wk1⟩ := m_keepW (h := g1)
  obtain ⟨r', k2, ek2, ir', jk2⟩ := m_light30 v wk1 (by rw [eS]; exact hw) mf mr
  rw [eS] at ir'
  have er : r' = r := isL_u ir' ir
  subst er
  refine ⟨r', g1, k2, ?_, ?_, sameJ_jII Qr_ok (sameJ_trans (wkF_J f1) jk2) hj⟩
  · rw [cl, ht.1, if_neg z, if_neg a0, if_pos a1, eg, Option.bind_some, eg1]
  · rw [rf, m_isTrug (by rw [eS]; exact v0), Option.bind_some, eS, if_neg z, mi, if_neg (fun y => y.elim a0 (Int32.not_lt.mpr a1)), Option.bind_some, if_neg (by decide), ek1, Option.bind_some, ek2]
