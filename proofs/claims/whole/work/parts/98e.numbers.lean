/-! PURE: numbers of texts, both sides -/
def nvB (B : Nat → Nat) (t p : Nat) : Nat := nvF B p (rn isDB B t p - p)
def numG (B : Nat → Nat) (t p : Nat) (lo hi : Int32) : Prop := ltB isDB B t p = true ∧ rn isDB B t p - p ≤ 5 ∧ ¬ (nI (nvB B t p) < lo ∨ hi < nI (nvB B t p))
/-- the first fault stays -/
def flt (f : Int32) (p w : Nat) : Int32 := if f = 0 then nI (1 + 8 * p + w) else f
def whyN (B : Nat → Nat) (t p : Nat) : Nat := if ltB isDB B t p = true then 1 else 0
theorem m_fails {h : xH} {p w : Nat} : f_M_fails (nI w) (nI p) h = some (0, xsI h 12 9 0 (flt (h.1 12 9 0) p w)) := by
  have s0 : f_M_fails (nI w) (nI p) h = (if h.1 12 9 0 = 0 then some (0, xsI h 12 9 0 ((1 + (8 : Int32) * nI p) + nI w)) else some (0, h)) := rfl
  have ev : (1 + (8 : Int32) * nI p) + nI w = nI (1 + 8 * p + w) := by
    rw [show (8 : Int32) * nI p = nI (8 * p) from pk_mul 8 p, show (1 : Int32) = nI 1 from rfl, nI_add, nI_add]
  unfold flt
  rw [s0, ev]
  by_cases z : h.1 12 9 0 = 0
  · rw [if_pos z, if_pos z]
  · rw [if_neg z, if_neg z, xsI_id]
theorem dg_all {B : Nat → Nat} {t p : Nat} : ∀ j, p ≤ j → j < rn isDB B t p → j < t ∧ 48 ≤ B j ∧ B j ≤ 57 := fun j h1 h2 => by
  have := ltB_t.mp (rn_all (P := isDB) (B := B) (t := t) p j h1 h2)
  exact ⟨this.1, of_decide_eq_true this.2⟩
theorem nvB_lt {B : Nat → Nat} {t p : Nat} (h : rn isDB B t p - p ≤ 5) : nvB B t p < 100000 := nv5 (fun j hj => (dg_all (B := B) (t := t) (p := p) (p + j) (by omega) (by omega)).2.2) h
/-- what a number of the reference changes -/
def mnF (h g : xH) : Prop := (∀ c k i, ¬ (c = 12 ∧ 8 ≤ k ∧ k ≤ 10) → g.1 c k i = h.1 c k i) ∧ g.2 = h.2
theorem mnF_t {h g k : xH} (a : mnF h g) (b : mnF g k) : mnF h k := ⟨fun c z i q => (b.1 c z i q).trans (a.1 c z i q), b.2.trans a.2⟩
theorem m_numberHere {h : xH} {t q p : Nat} {B : Nat → Nat} (hm : mat h t B q) (hp : p = rn isSB B t q) (lo hi : Int32) : ∃ g, f_M_numberHere lo hi h = some (ind (numG B t p lo hi), g) ∧ mat g t B (if ltB isDB B t p = true then rn isDB B t p else p) ∧ (numG B t p lo hi → g.1 12 10 0 = nI (nvB B t p) ∧ g.1 12 9 0 = h.1 12 9 0) ∧ (¬ numG B t p lo hi → g.1 12 9 0 = flt (h.1 12 9 0) p (whyN B t p)) ∧ mnF h g := by
  have pt : p ≤ t := by rw [hp]; exact rn_le q hm.2.2
  have t4 := hm.1.2.1
  obtain ⟨g0, eg0⟩ : ∃ g0, g0 = xsI h 12 8 0 (nI p) := ⟨_, rfl⟩
  have hg : mat g0 t B p := by rw [eg0]; exact mat_s hm pt
  have e9 : g0.1 12 9 0 = h.1 12 9 0 := by rw [eg0, rdI (by decide)]
  have f0 : mnF h g0 := ⟨fun c k i z => by rw [eg0, rdI (by omega)], by rw [eg0]; rfl⟩
  have s0 : f_M_numberHere lo hi h = (f_M_see h).bind (fun q3 => (f_M_isDigit (q3.2.1 12 8 0) q3.2).bind (fun r4 => if r4 = 0 then (f_M_fails 0 (q3.2.1 12 8 0) q3.2).bind (fun q9 => if q9.1 = 0 ∨ q9.1 = 1 then some (q9.1, q9.2) else none) else f_M_numberHere_l34 lo hi (q3.2.1 12 8 0) 0 q3.2)) := rfl
  rw [m_see hm, Option.bind_some, ← hp, ← eg0, hg.2.1, m_isDigit hg.1 (by omega), Option.bind_some, sel_e] at s0
  by_cases yd : ltB isDB B t p = true
  · rw [if_pos yd] at s0 ⊢
    obtain ⟨e, he⟩ : ∃ e, e = rn isDB B t p := ⟨_, rfl⟩
    have pe : p ≤ e := by rw [he]; exact rn_ge p
    have et : e ≤ t := by rw [he]; exact rn_le p pt
    have lp : ∀ x, p ≤ x → x ≤ t → (∀ j, p ≤ j → j < x → 48 ≤ B j ∧ B j ≤ 57) → f_M_numberHere_l34 lo hi (nI p) (nI (nvF B p (min 5 (x - p)))) (xsI g0 12 8 0 (nI x)) = f_M_numberHere_b88 lo hi (nI p) (nI (nvF B p (min 5 (rn isDB B t x - p)))) (xsI g0 12 8 0 (nI (rn isDB B t x))) := by
      refine rn_ind (P := isDB) (B := B) (t := t) (C := fun x => p ≤ x → x ≤ t → (∀ j, p ≤ j → j < x → 48 ≤ B j ∧ B j ≤ 57) → f_M_numberHere_l34 lo hi (nI p) (nI (nvF B p (min 5 (x - p)))) (xsI g0 12 8 0 (nI x)) = f_M_numberHere_b88 lo hi (nI p) (nI (nvF B p (min 5 (rn isDB B t x - p)))) (xsI g0 12 8 0 (nI (rn isDB B t x)))) (fun x hn h1 h2 h3 => ?_) (fun x hy ih h1 h2 h3 => ?_)
      · rw [rn_n hn]
        apply whl_up
        have hx := mat_s hg h2
        show f_M_numberHere_s34 lo hi (nI p) (nI (nvF B p (min 5 (x - p)))) (xsI g0 12 8 0 (nI x)) = _
        unfold f_M_numberHere_s34
        rw [hx.2.1, m_isDigit hx.1 (by omega), Option.bind_some, sel_e, if_neg hn]
      · obtain ⟨xt, xb⟩ := ltB_t.mp hy
        have xd : 48 ≤ B x ∧ B x ≤ 57 := of_decide_eq_true xb
        rw [rn_y hy, ← ih (by omega) xt (fun j j1 j2 => by
          by_cases z : j = x
          · rw [z]; exact xd
          · exact h3 j j1 (by omega))]
        have hx := mat_s hg h2
        obtain ⟨y1, y2⟩ := hx.1.2.2 x xt
        have eb : (xsI g0 12 8 0 (nI x)).2.2.2.1 47 0 x = nI (B x) := (sB_eq y1 (by omega)).mpr y2
        apply whl_st
        show f_M_numberHere_s34 lo hi (nI p) (nI (nvF B p (min 5 (x - p)))) (xsI g0 12 8 0 (nI x)) = some (Sum.inl (nI (nvF B p (min 5 (x + 1 - p))), xsI g0 12 8 0 (nI (x + 1))))
        unfold f_M_numberHere_s34 f_M_numberHere_b75
        rw [hx.2.1, m_isDigit hx.1 (by omega), Option.bind_some, sel_e, if_pos hy, pk_sub h1, if_pos (xibN (by omega) (by decide)), nI_clamp (by omega), eb, xlet_e, xlet_e, xlet_e, nI_1, xsI_2]
        by_cases z : 5 ≤ x - p
        · rw [if_pos (show (5 : Int32) ≤ nI (x - p) from nI_le (a := 5) z (by omega)), Nat.min_eq_left z, Nat.min_eq_left (by omega)]
        · rw [if_neg (show ¬ (5 : Int32) ≤ nI (x - p) from nI_ge (b := 5) (by omega) (by decide)), Nat.min_eq_right (by omega), Nat.min_eq_right (by omega), show x + 1 - p = (x - p) + 1 by omega]
          show some (Sum.inl (((10 : Int32) * nI (nvF B p (x - p)) + nI (B x)) - 48, _)) = some (Sum.inl (nI (nvF B p (x - p) * 10 + (B (p + (x - p)) - 48)), _))
          rw [show (10 : Int32) * nI (nvF B p (x - p)) = nI (10 * nvF B p (x - p)) from pk_mul 10 _, nI_add, show (48 : Int32) = nI 48 from rfl, pk_sub (by omega), show p + (x - p) = x by omega, show 10 * nvF B p (x - p) + B x - 48 = nvF B p (x - p) * 10 + (B x - 48) by omega]
    have l0 := lp p (Nat.le_refl _) pt (fun j h1 h2 => by omega)
    have e00 : xsI g0 12 8 0 (nI p) = g0 := by rw [← hg.2.1]; exact xsI_id
    rw [show p - p = 0 by omega, e00, ← he] at l0
    have l0 : f_M_numberHere_l34 lo hi (nI p) 0 g0 = f_M_numberHere_b88 lo hi (nI p) (nI (nvF B p (min 5 (e - p)))) (xsI g0 12 8 0 (nI e)) := l0
    rw [l0] at s0
    obtain ⟨g1, eg1⟩ : ∃ g1, g1 = xsI (xsI g0 12 8 0 (nI e)) 12 10 0 (nI (nvF B p (min 5 (e - p)))) := ⟨_, rfl⟩
    have m1 : mat g1 t B e := by
      have := mat_s hg et
      rw [eg1]
      exact ⟨mtx_of (rdI (by decide)) rfl this.1, by rw [rdI (by decide)]; exact this.2.1, et⟩
    have f1 : mnF h g1 := mnF_t f0 ⟨fun c k i z => by rw [eg1, rdI (by omega), rdI (by omega)], by rw [eg1]; rfl⟩
    have e91 : g1.1 12 9 0 = h.1 12 9 0 := by rw [eg1, rdI (by decide), rdI (by decide)]; exact e9
    have wy : whyN B t p = 1 := if_pos yd
    have b88 : f_M_numberHere_b88 lo hi (nI p) (nI (nvF B p (min 5 (e - p)))) (xsI g0 12 8 0 (nI e)) = (if (5 : Int32) < nI e - nI p then f_M_numberHere_b117 (nI p) g1 else (f_M_in ((nI (nvF B p (min 5 (e - p)))).toInt64) lo.toInt64 hi.toInt64 g1).bind (fun r21 => if r21 = 0 then f_M_numberHere_b117 (nI p) g1 else some (1, g1))) := by
      unfold f_M_numberHere_b88
      rw [xlet_e, ← eg1, m1.2.1]
    have b117 : f_M_numberHere_b117 (nI p) g1 = some (0, xsI g1 12 9 0 (flt (h.1 12 9 0) p 1)) := by
      unfold f_M_numberHere_b117
      have := m_fails (h := g1) (p := p) (w := 1)
      rw [show (1 : Int32) = nI 1 from rfl, this, Option.bind_some, if_pos rfl, e91]
    rw [b88, b117, pk_sub pe, m_in _ lo hi rfl rfl, Option.bind_some] at s0
    have bad : ¬ numG B t p lo hi → f_M_numberHere lo hi h = some (0, xsI g1 12 9 0 (flt (h.1 12 9 0) p 1)) → ∃ g, f_M_numberHere lo hi h = some (ind (numG B t p lo hi), g) ∧ mat g t B e ∧ (numG B t p lo hi → g.1 12 10 0 = nI (nvB B t p) ∧ g.1 12 9 0 = h.1 12 9 0) ∧ (¬ numG B t p lo hi → g.1 12 9 0 = flt (h.1 12 9 0) p (whyN B t p)) ∧ mnF h g := by
      intro n1 n2
      refine ⟨_, by rw [ind_f n1]; exact n2, ⟨mtx_of (rdI (by decide)) rfl m1.1, by rw [rdI (by decide)]; exact m1.2.1, et⟩, fun y => absurd y n1, fun _ => by rw [rdI_s, wy], mnF_t f1 ⟨fun c k i z => rdI (by omega), rfl⟩⟩
    rw [← he]
    by_cases z5 : e - p ≤ 5
    · rw [if_neg (show ¬ (5 : Int32) < nI (e - p) from nI_nlt (b := e - p) (a := 5) z5 (by decide)), Nat.min_eq_right z5] at s0
      have ev : nvB B t p = nvF B p (e - p) := by unfold nvB; rw [← he]
      by_cases zr : nI (nvF B p (e - p)) < lo ∨ hi < nI (nvF B p (e - p))
      · rw [if_pos zr, if_pos rfl] at s0
        exact bad (fun y => y.2.2 (by rw [ev]; exact zr)) s0
      · rw [if_neg zr, if_neg (by decide)] at s0
        have gd : numG B t p lo hi := ⟨yd, by rw [← he]; exact z5, by rw [ev]; exact zr⟩
        exact ⟨g1, by rw [ind_t gd]; exact s0, m1, fun _ => ⟨by rw [eg1, rdI_s, Nat.min_eq_right z5, ev], e91⟩, fun y => absurd gd y, f1⟩
    · rw [if_pos (show (5 : Int32) < nI (e - p) from nI_lt (a := 5) (by omega) (by omega))] at s0
      exact bad (fun y => z5 (by have := y.2.1; rw [← he] at this; exact this)) s0
  · rw [if_neg yd] at s0 ⊢
    have nb : ¬ numG B t p lo hi := fun y => yd y.1
    have mf : f_M_fails 0 (nI p) g0 = some (0, xsI g0 12 9 0 (flt (g0.1 12 9 0) p 0)) := m_fails (h := g0) (p := p) (w := 0)
    rw [mf, Option.bind_some, if_pos (Or.inl rfl), e9] at s0
    refine ⟨_, by rw [ind_f nb]; exact s0, ⟨mtx_of (rdI (by decide)) rfl hg.1, by rw [rdI (by decide)]; exact hg.2.1, pt⟩, fun y => absurd y nb, fun _ => by rw [rdI_s]; unfold whyN; rw [if_neg yd], mnF_t f0 ⟨fun c k i z => rdI (by omega), rfl⟩⟩
/-- a number of the class -/
theorem c_readNumber {h : xH} {t p : Nat} {B : Nat → Nat} (ht : tR h t B p) (lo hi : Int32) (h0 : ¬ lo < 0) : ∃ r g, f_TrugReader_readNumber lo hi h = some (r, g) ∧ (numG B t p lo hi → r = nI (nvB B t p) ∧ g.1 7 9 0 = h.1 7 9 0 ∧ tR g t B (nxB B t p)) ∧ (¬ numG B t p lo hi → r = lo ∧ g.1 7 9 0 = flt (h.1 7 9 0) p (whyN B t p) ∧ tR g t B p) ∧ tpF h g := by
  obtain ⟨hc, a, np, -, -, -, -, -, -, -, -, k7, v8⟩ := id ht
  have s0 : f_TrugReader_readNumber lo hi h = (if h.1 7 7 0 = 2 then (if h.1 7 8 0 < lo then (f_Tape_fail 1 h).bind (fun h6 => some (lo, h6)) else if h.1 7 8 0 ≤ hi then (f_Tape_goOn h).bind (fun h10 => some (h.1 7 8 0, h10)) else (f_Tape_fail 1 h).bind (fun h6 => some (lo, h6))) else (f_Tape_fail 0 h).bind (fun h13 => some (lo, h13))) := rfl
  obtain ⟨g1, e1, r1, f1, k1, -, -⟩ := c_failT (w := 1) ht
  obtain ⟨g0, e0, r0, f0, kk0, -, -⟩ := c_failT (w := 0) ht
  obtain ⟨g2, e2, r2, f2, k2⟩ := c_goOnT ht
  have e1 : f_Tape_fail 1 h = some g1 := e1
  have e0 : f_Tape_fail 0 h = some g0 := e0
  rw [e1, e0, e2, Option.bind_some, Option.bind_some, Option.bind_some, k7] at s0
  by_cases yd : ltB isDB B t p = true
  · obtain ⟨pt, pb⟩ := ltB_t.mp yd
    have nl : ¬ isLB (B p) = true := fun u => by
      have u1 := of_decide_eq_true u
      have u2 := of_decide_eq_true pb
      omega
    have kd : kdB B t p = 2 := by
      unfold kdB
      rw [if_neg (show ¬ t ≤ p by omega), if_neg nl, if_pos pb]
    have ev := v8.2.2.1 pt pb
    rw [kd, if_pos rfl] at s0
    have wy : whyN B t p = 1 := if_pos yd
    have bad : ¬ numG B t p lo hi → f_TrugReader_readNumber lo hi h = some (lo, g1) → ∃ r g, f_TrugReader_readNumber lo hi h = some (r, g) ∧ (numG B t p lo hi → r = nI (nvB B t p) ∧ g.1 7 9 0 = h.1 7 9 0 ∧ tR g t B (nxB B t p)) ∧ (¬ numG B t p lo hi → r = lo ∧ g.1 7 9 0 = flt (h.1 7 9 0) p (whyN B t p) ∧ tR g t B p) ∧ tpF h g := fun n1 n2 => ⟨lo, g1, n2, fun y => absurd y n1, fun _ => ⟨rfl, by rw [wy]; exact k1, r1⟩, f1⟩
    by_cases z5 : rn isDB B t p - p ≤ 5
    · have ev : h.1 7 8 0 = nI (nvB B t p) := by rw [ev, if_pos z5]; rfl
      rw [ev] at s0
      by_cases z1 : nI (nvB B t p) < lo
      · rw [if_pos z1] at s0
        exact bad (fun y => y.2.2 (Or.inl z1)) s0
      · by_cases z2 : nI (nvB B t p) ≤ hi
        · rw [if_neg z1, if_pos z2] at s0
          have gd : numG B t p lo hi := ⟨yd, z5, fun y => y.elim z1 (Int32.not_lt.mpr z2)⟩
          exact ⟨_, g2, s0, fun _ => ⟨rfl, k2, r2⟩, fun y => absurd gd y, f2⟩
        · rw [if_neg z1, if_neg z2] at s0
          exact bad (fun y => y.2.2 (Or.inr (Int32.not_le.mp z2))) s0
    · rw [ev, if_neg z5] at s0
      have z1 : (-1 : Int32) < lo := by
        rw [Int32.lt_iff_toInt_lt] at h0 ⊢
        have h0 : ¬ lo.toInt < (0 : Int) := h0
        show (-1 : Int) < lo.toInt
        omega
      rw [if_pos z1] at s0
      exact bad (fun y => z5 y.2.1) s0
  · have nb : ¬ numG B t p lo hi := fun y => yd y.1
    have kd : ¬ kdB B t p = 2 := by
      unfold kdB
      by_cases pt : p < t
      · rw [if_neg (show ¬ t ≤ p by omega)]
        by_cases nl : isLB (B p) = true
        · rw [if_pos nl]; decide
        · rw [if_neg nl, if_neg (fun u => yd (ltB_t.mpr ⟨pt, u⟩))]
          decide
      · rw [if_pos (show t ≤ p by omega)]; decide
    rw [if_neg kd] at s0
    exact ⟨lo, g0, s0, fun y => absurd y nb, fun _ => ⟨rfl, by unfold whyN; rw [if_neg yd]; exact kk0, r0⟩, f0⟩
/-- where the reference comes to behind a number -/
theorem nx_num {B : Nat → Nat} {t p : Nat} (h : ltB isDB B t p = true) : rn isSB B t (rn isDB B t p) = nxB B t p := by
  obtain ⟨pt, pb⟩ := ltB_t.mp h
  have nl : ¬ isLB (B p) = true := fun u => by
    have u1 := of_decide_eq_true u
    have u2 := of_decide_eq_true pb
    omega
  unfold nxB enB
  rw [if_pos pt, if_neg (show ¬ t ≤ p by omega), if_neg nl, if_pos pb]
theorem nx_word {B : Nat → Nat} {t p : Nat} (h : ltB isLB B t p = true) : rn isSB B t (rn isLB B t p) = nxB B t p := by
  obtain ⟨pt, pb⟩ := ltB_t.mp h
  unfold nxB enB
  rw [if_pos pt, if_neg (show ¬ t ≤ p by omega), if_pos pb]
theorem nx_sign {B : Nat → Nat} {t p : Nat} (pt : p < t) (nl : ¬ isLB (B p) = true) (nd : ¬ isDB (B p) = true) (nw : ¬ weqB B t p = true) : rn isSB B t (p + 1) = nxB B t p := by
  unfold nxB enB
  rw [if_pos pt, if_neg (show ¬ t ≤ p by omega), if_neg nl, if_neg nd, if_neg nw]
theorem wd_l {B : Nat → Nat} {t p i : Nat} (hi : i < 20) (h : isWd B t p i) : ltB isLB B t p = true := by
  by_cases y : ltB isLB B t p = true
  · exact y
  · have h1 := h.1
    rw [rn_n y] at h1
    have := (w_f4 i hi).2.2.1
    omega
