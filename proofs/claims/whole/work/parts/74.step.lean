/-! PURE: step -/
/-- the store new where the invariant reads, base elsewhere -/
noncomputable def ptH (base new : xH) : xH := (fun c k i => @ite _ (jF c k i) (Classical.propDecidable _) (new.1 c k i) (base.1 c k i), new.2.1, new.2.2.1, fun f i => @ite _ (jG f i) (Classical.propDecidable _) (new.2.2.2.1 f i) (base.2.2.2.1 f i), new.2.2.2.2)
theorem pt_I {base new : xH} {c k i : Nat} (h : jF c k i) : (ptH base new).1 c k i = new.1 c k i := if_pos h
theorem pt_In {base new : xH} {c k i : Nat} (h : ¬ jF c k i) : (ptH base new).1 c k i = base.1 c k i := if_neg h
theorem pt_A {base new : xH} {f i : Nat} (h : jG f i) : (ptH base new).2.2.2.1 f i = new.2.2.2.1 f i := if_pos h
theorem pt_An {base new : xH} {f i : Nat} (h : ¬ jG f i) : (ptH base new).2.2.2.1 f i = base.2.2.2.1 f i := if_neg h
theorem pt_J {base new : xH} : sameJ (ptH base new) new := ⟨fun _ _ _ q => (pt_I q).symm, fun _ _ q => (pt_A q).symm⟩
theorem act_all2 {Q : xH → Nat → Prop} (hQ : qOk Q) {h : xH} {R n m c u x : Nat} (hR : R ≤ 6) (r1 : h.1 11 5 0 = nI R) (r2 : h.1 12 2 0 = nI R) (hq : Q h R) (ht : tpR h) (hf : fxR h R) (him : ∀ k, k < 4 → imR h R k) (hsc : scR h 0 (mS h) n m c) (u20 : u ≤ 20) (h24 : h.1 12 24 0 = nI u) (hpo : ∀ j, j < u → vOk (paV h j) n m c) {g1 h1 : xH} (hk : kept h g1 x) (pa : paC g1 n (min 20 (u + 1)) ((x + 1) % 20) (paAdd u (paV h) (mS h))) (w1 : ∀ c k i, jF c k i → ¬ (c = 6 ∧ i = 0) → h1.1 c k i = g1.1 c k i) (w2 : ∀ f i, jG f i → ¬ (29 ≤ f ∧ f ≤ 32 ∧ i = 0) → h1.2.2.2.1 f i = g1.2.2.2.1 f i) {V' : Nat → Int32} (s1 : stR h1 0 V' n) (hV : ∀ t, ¬ (10 ≤ t ∧ t < 44) → V' t = mS h t) (hv : vOk V' n m c) : (mS h1 = mS h) ∧ ∃ g2, f_M_keepsAct h1 = some g2 ∧ mS g2 = mS h ∧ keptM h1 g2 ∧ ∀ h2 : xH, (∀ c k i, jF c k i → h2.1 c k i = g2.1 c k i) → (∀ f i, jG f i → ¬ f = 56 → h2.2.2.2.1 f i = g2.2.2.2.1 f i) → mS h2 = V' → jII Q h2 := by
  obtain ⟨k1, k2, -⟩ := hk
  obtain ⟨p, ep⟩ : ∃ p, p = ptH g1 h1 := ⟨_, rfl⟩
  have y1 : ∀ c k i, ¬ (c = 6 ∧ i = 0) → p.1 c k i = g1.1 c k i := fun c k i q => by
    rw [ep]
    by_cases z : jF c k i
    · rw [pt_I z]; exact w1 c k i z q
    · rw [pt_In z]
  have y2 : ∀ f i, ¬ (29 ≤ f ∧ f ≤ 32 ∧ i = 0) → p.2.2.2.1 f i = g1.2.2.2.1 f i := fun f i q => by
    rw [ep]
    by_cases z : jG f i
    · rw [pt_A z]; exact w2 f i z q
    · rw [pt_An z]
  have pJ : sameJ p h1 := by rw [ep]; exact pt_J
  have hC : acC h p := ⟨fun c k i a b => (y1 c k i (by omega)).trans (k1 c k i (by omega) b), fun k i a b => (y1 6 k i (by omega)).trans (k1 6 k i (by omega) (by decide)), fun f i a => (y2 f i (by omega)).trans (k2 f i (by omega))⟩
  have eA : ∀ f i, jG f i → ¬ (29 ≤ f ∧ f ≤ 32) → h1.2.2.2.1 f i = h.2.2.2.1 f i := fun f i a b => (w2 f i a (by omega)).trans (k2 f i (by omega))
  have eS : mS h1 = mS h := eA 56 0 (by unfold jG; omega) (by omega)
  have eP : paV h1 = paV h := by
    funext j t
    unfold paV
    rw [eS, eA 57 0 (by unfold jG; omega) (by omega)]
  have e24 : h1.1 12 24 0 = nI u := by
    rw [w1 12 24 0 (by unfold jF; omega) (by decide), k1 12 24 0 (by omega) (by decide)]; exact h24
  obtain ⟨g2, e2, q1, q2, q3⟩ := m_keepsAct (h := h1) (u := u) e24 u20
  obtain ⟨q3, q4, q5⟩ := q3
  have eS2 : mS g2 = mS h := by
    show g2.2.2.2.1 56 0 = _
    rw [q4 56 0 (by decide)]
    exact eS
  refine ⟨eS, g2, e2, eS2, ⟨q3, q4, q5⟩, fun h2 a1 a2 a3 => ?_⟩
  obtain ⟨z, ez⟩ : ∃ z, z = ptH p h2 := ⟨_, rfl⟩
  have zJ : sameJ z h2 := by rw [ez]; exact pt_J
  have hM : acM p z := by
    refine ⟨fun c k i hn => ?_, fun f i b1 b2 => ?_⟩
    · rw [ez]
      by_cases y : jF c k i
      · rw [pt_I y, a1 c k i y, q3 c k i hn]; exact pJ.1 c k i y
      · rw [pt_In y]
    · rw [ez]
      by_cases y : jG f i
      · rw [pt_A y, a2 f i y b2, q4 f i b1]; exact pJ.2 f i y
      · rw [pt_An y]
  have zS : mS z = V' := by
    show z.2.2.2.1 56 0 = _
    rw [← zJ.2 56 0 (by unfold jG; omega)]
    exact a3
  refine sameJ_jII hQ zJ (act_jII hQ hR r1 r2 hq hC hM ?_)
  obtain ⟨p20, px, p2, p1, pj⟩ := pa
  have sp : stR p 0 V' n := stR_of (fun k _ => (pJ.1 6 k 0 (by unfold jF; omega)).symm) (fun f b1 b2 k _ => by rw [pJ.2 f 0 (by unfold jG; omega)]) s1
  refine act_jI (PA := paAdd u (paV h) (mS h)) ht hf him hsc hv hV hC sp ⟨p20, px, by rw [y1 1 2 0 (by decide)]; exact p2, by rw [y1 1 1 0 (by decide)]; exact p1, fun j hj => ?_⟩ hM zS ?_ (fun j hj => ?_) (paAdd_ok u20 hsc.1 hpo)
  · exact stR_of (fun k _ => y1 6 k _ (by omega)) (fun f b1 b2 k _ => by rw [y2 f _ (by omega)]) (pj j hj)
  · rw [← zJ.1 12 24 0 (by unfold jF; omega), a1 12 24 0 (by unfold jF; omega)]
    exact q1
  · have e := q2 j hj
    rw [eP, eS] at e
    rw [← e]
    funext t
    unfold paV
    by_cases ht : 10 ≤ t ∧ t < 44
    · rw [if_pos ht, if_pos ht, ← zJ.2 57 0 (by unfold jG; omega), a2 57 0 (by unfold jG; omega) (by decide)]
    · rw [if_neg ht, if_neg ht, zS, eS2]
      exact hV t ht
/-- what is said behind a step is in order -/
theorem vOk_st {V : Nat → Int32} {n m c s : Nat} {ch : Option Nat} (hv : vOk V n m c) (e11 : V 11 = nI s) (hs : s < 999) (hc : ∀ k, ch = some k → k < n) : vOk (stV V ch) n m c := by
  have hw := wOk_v hv
  have n8 := hw.2.1
  have hw' := wOk_st hw hc
  obtain ⟨-, -, -, -, -, -, -, -, -, -, vk, -⟩ := id hv
  refine vOk_of (V := V) (fun t ht => stV_o (fun k hk => by have := hc k hk; omega) ht) hw'.2.2.1 ?_ (fun k hk => ?_) hv
  · refine ⟨s + 1, by omega, ?_⟩
    cases ch with
    | none =>
      show upd _ 11 (V 11 + 1) 11 = _
      rw [pk_us, e11, nI_1]
    | some j =>
      show upd _ 11 (V 11 + 1) 11 = _
      rw [pk_us, e11, nI_1]
  · obtain ⟨b1, b2, b3, b4, -⟩ := vk k hk
    obtain ⟨a1, -⟩ := hw'.2.2.2 k hk
    cases ch with
    | none =>
      have o : ∀ t, t ≠ 10 → t ≠ 11 → stV V none t = V t := fun t h1 h2 => by
        show upd (upd V 10 (gbT V 1)) 11 (V 11 + 1) t = V t
        rw [pk_un h2, pk_un h1]
      rw [o (20 + k) (by omega) (by omega), o (28 + k) (by omega) (by omega), o (36 + k) (by omega) (by omega)]
      exact ⟨a1, b2, b3, b4⟩
    | some j =>
      have hj := hc j rfl
      have o : ∀ t, t ≠ 11 → stV V (some j) t = liV V j t := fun t h1 => pk_un h1
      rw [o (20 + k) (by omega), o (28 + k) (by omega), o (36 + k) (by omega), liV_o (show 28 + k ≠ 10 by omega) (by omega) (by omega), liV_o (show 36 + k ≠ 10 by omega) (by omega) (by omega)]
      refine ⟨a1, ?_, b3, b4⟩
      by_cases e : k = j
      · subst e
        rw [liV_20]
        have := hw'.2.2.1
        rw [o 10 (by decide), liV_10] at this
        exact Or.inr this
      · rw [liV_o (show 20 + k ≠ 10 by omega) (by omega) (by omega)]
        exact b2
/-- step -/
theorem p_step : lI_step (jII Qr) := by
  intro h hj
  obtain ⟨n', m', c', rl, cs, -, hf, hf4, hc, hr, hn⟩ := ask_pre hj
  obtain ⟨R, hR, r1, r2, hji, hq⟩ := id hj
  obtain ⟨ht, hfx, him, n, m, c, hsc, u, x, u20, x20, u1, u2, u3, up⟩ := id hji
  obtain ⟨hv, hto, hst, -, -⟩ := id hsc
  obtain ⟨v0, -, -, -, v3, n8, -, -, -, ⟨s, hs, v11⟩, -⟩ := id hv
  have cl : f_B_step h = (if h.1 8 0 0 = 0 then some (-1, h) else if h.1 6 1 0 < 999 then (f_Past_keep 0 h).bind (fun h5 => (f_B_startNow h5).bind (fun h8 => (f_Walk_goOn h8).bind (fun q11 => (f_State_copyFrom 0 25 q11.2).bind (fun h14 => if q11.1 = -1 then some (-2, h14) else some (q11.1, h14))))) else some (-1, h)) := rfl
  have rf : ∀ h1 : xH, f_M_step h1 = (f_M_isTrug h1).bind (fun r1 => if r1 = 0 then some (-1, h1) else if mS h1 11 = 999 then some (-1, h1) else (f_M_keepsAct h1).bind (fun h7 => (f_M_passes h7).bind (fun q10 => if (0 : Int32) ≤ q10.1 then some (q10.1, q10.2) else some (-2, q10.2)))) := fun _ => rfl
  by_cases z : mS h 0 = 0
  · exact ⟨-1, h, h, by rw [cl, hto.1, if_pos z], by rw [rf, m_isTrug v0, Option.bind_some, if_pos z], hj⟩
  have e61 : h.1 6 1 0 = nI s := hst.2.1.trans v11
  by_cases s9 : s = 999
  · subst s9
    exact ⟨-1, h, h, by rw [cl, hto.1, if_neg z, e61, if_neg (by decide)], by rw [rf, m_isTrug v0, Option.bind_some, if_neg z, v11, if_pos (show nI 999 = (999 : Int32) from rfl)], hj⟩
  obtain ⟨g1, e1, sg1, pa, hk⟩ := c_keep (V := mS h) (pa := paV h) n8 hst ⟨u20, x20, u1, u3, fun j hj => (up j hj).2⟩
  obtain ⟨kk1, kk2, -⟩ := id hk
  have to1 : toR g1 0 (mS h) n m := toR_of (fun k _ => kk1 8 k 0 (by omega) (by decide)) (fun f a b k _ => by rw [kk2 f 0 (by omega)]) (fun k _ => by rw [kk2 41 0 (by omega)]) hto
  have hcg : clR g1 rl cs := clR_of (fun k r => kk1 2 k r (by omega) (by decide)) (fun r => kk2 18 r (by omega)) hc
  obtain ⟨g2, e2, wg2, f2⟩ := c_start (wOk_v hv) to1 sg1 hcg
  have est : f_B_startNow g1 = some g2 := by
    show (f_B_ruleNumbered (g1.1 4 2 0) g1).bind (fun r1 => (f_Walk_start 0 0 r1 g1).bind (fun h5 => some h5)) = _
    rw [kk1 4 2 0 (by omega) (by decide), hf4, hn g1 (kk1 11 5 0 (by omega) (by decide)), Option.bind_some, e2]
    rfl
  obtain ⟨g3, e3, wg3, f3⟩ := c_goOn wg2
  obtain ⟨h1, e4, c1, c2, c3, c4, -⟩ := c_copyFrom (h := g3) (a := 0) (b := 25) (by decide)
  have f23 := wkF_trans f2 f3
  have hlt := chV_lt (V := mS h) (n := n) (rl := rl) (cs := cs)
  obtain ⟨⟨st, ⟨sW, -⟩, -⟩, -⟩ := id wg3
  obtain ⟨ch, ech⟩ : ∃ ch, ch = chV (mS h) n rl cs := ⟨_, rfl⟩
  rw [← ech] at e3 sW hlt
  have s1 : stR h1 0 (stV (mS h) ch) n := stR_of c1 (fun f a b k hk => c3 f a b k (by omega)) sW
  have hv' : vOk (stV (mS h) ch) n m c := vOk_st hv v11 (by omega) hlt
  obtain ⟨eS, k1, ek1, eS1, hkM, fin⟩ := act_all2 (V' := stV (mS h) ch) Qr_ok hR r1 r2 hq ht hfx him hsc u20 u2 (fun j hj => (up j hj).1) hk pa (h1 := h1) (fun c k i a b => by rw [c2 c k i (by omega)]; exact f23.1 c k i (by unfold jF at a; omega) (by unfold jF at a; omega)) (fun f i a b => by rw [c4 f i (by omega)]; exact f23.2 f i (by unfold jG at a; omega)) s1 (fun t ht => stV_o (fun k hk => by have := hlt k hk; omega) ht) hv'
  have aH : ∀ f i, ¬ f = 57 → ¬ (29 ≤ f ∧ f ≤ 32) → k1.2.2.2.1 f i = h.2.2.2.1 f i := fun f i a b => by
    rw [hkM.2.1 f i a, c4 f i (by omega), f23.2 f i (by omega), kk2 f i (by omega)]
  have iH : k1.1 12 21 0 = oI rl := by
    rw [hkM.1 12 21 0 (by decide), c2 12 21 0 (by decide), f23.1 12 21 0 (by decide) (by decide), kk1 12 21 0 (by omega) (by decide)]
    exact hf
  obtain ⟨k2, ek2, sk2, fk2⟩ := m_passes (h := k1) (n := n) (rl := rl) (cs := cs) (by rw [eS1]; exact wOk_v hv) iH (fun r hr' => ⟨(hr r hr').1, mcR_of2 (aH 48 0 (by decide) (by omega)) (aH 50 0 (by decide) (by omega)) (aH 51 0 (by decide) (by omega)) (hr r hr').2⟩)
  rw [eS1, ← ech] at ek2 sk2
  have good : jII Qr k2 := fin k2 (fun c k i a => fk2.1 c k i (by unfold jF at a; omega)) (fun f i a b => fk2.2 f i (by omega)) sk2
  have e11 : ¬ mS h1 11 = 999 := by
    rw [eS, v11]
    exact fun z => s9 ((nI_eq (a := s) (b := 999) (by omega) (by decide)).mp z)
  have cB : f_B_step h = (if oI ch = -1 then some (-2, h1) else some (oI ch, h1)) := by
    rw [cl, hto.1, if_neg z, e61, if_pos (show nI s < (999 : Int32) from nI_lt (b := 999) (by omega) (by decide)), e1, Option.bind_some, est, Option.bind_some, e3, Option.bind_some, e4, Option.bind_some]
  have cM : f_M_step h1 = (if (0 : Int32) ≤ oI ch then some (oI ch, k2) else some (-2, k2)) := by
    rw [rf, m_isTrug (by rw [eS]; exact v0), Option.bind_some, eS, if_neg z, ← eS, if_neg e11, ek1, Option.bind_some, ek2, Option.bind_some]
  rw [cB]
  have h256 : ∀ g, ch = some g → g < 256 := fun g hg => by have := hlt g hg; omega
  by_cases q : ch = none
  · refine ⟨-2, h1, k2, by rw [if_pos ((oI_m1 h256).mpr q)], ?_, good⟩
    rw [cM, if_neg (fun y => absurd ((oI_neg h256).mpr q) (Int32.not_lt.mpr y))]
  · refine ⟨oI ch, h1, k2, by rw [if_neg (fun y => q ((oI_m1 h256).mp y))], ?_, good⟩
    rw [cM, if_pos (Int32.not_lt.mp (fun y => q ((oI_neg h256).mp y)))]
