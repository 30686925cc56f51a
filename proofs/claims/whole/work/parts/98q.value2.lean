/-! PURE: rule: a value, both sides -/
theorem exG_1 {τ : Nat × Nat} (h : τ.1 ≤ 1) : exG [τ] ∧ np [τ] = 1 := by
  have n1 : np [τ] = 1 := by
    unfold np
    rw [List.filter_cons_of_pos (by simpa using h)]
    rfl
  refine ⟨fun w N st hl => ?_, n1⟩
  rw [n1] at hl
  show ∃ x, (evT w N τ st).bind (evs w N []) = some (x :: st)
  unfold evT
  by_cases z : τ.1 = 0
  · rw [if_pos z, if_pos (by omega), Option.bind_some]
    exact ⟨_, rfl⟩
  · rw [if_neg z, if_pos (by omega), if_pos (by omega), Option.bind_some]
    exact ⟨_, rfl⟩
theorem lk_tok {a b g : xH} {t p e R L C k : Nat} {B : Nat → Nat} {τ : Nat × Nat} (ht : tR a t B p) (pt : p < t) (t4 : t ≤ 400) (fa : a.1 7 9 0 = 0) (hz : rz a b R L C k) (hL : L ≤ p) (k6 : k < 60) (hg : tkG τ) (h1 : τ.1 ≤ 1) (mg : mat g t B e) (en : rn isSB B t e = nxB B t p) (g9 : g.1 12 9 0 = 0) (gf : sfM R b g) (g2 : g.2 = b.2) (g12 : g.1 12 12 0 = nI (k + 1)) : ∃ a' b', ((a.2.2.1 3 1 0).bind (fun i => (f_Rule_add i (nI (cN τ)) (xsI a 3 3 0 (nI (k + 1)))).bind (fun h16 => (f_Tape_goOn h16).bind (fun h19 => some h19)))) = some a' ∧ f_M_puts (nI τ.1) (nI τ.2) g = some b' ∧ sfC R a a' ∧ sfM R b b' ∧ os a b a' b' t B R L C k p 1 := by
  obtain ⟨z1, z2, z3, z4, z5, z6, z7, z8, z9⟩ := hz
  obtain ⟨a1, ea1⟩ : ∃ a1, a1 = xsI a 3 3 0 (nI (k + 1)) := ⟨_, rfl⟩
  have f1 : sfC R a a1 := by rw [ea1]; exact ⟨fun c k i _ _ q => rdI q, fun _ _ _ _ => rfl, rfl⟩
  have t1 : tR a1 t B p := by rw [ea1]; exact tR_of (fun _ => rdI (by omega)) (fun _ _ _ => rfl) ht
  obtain ⟨a2, ea2, ad, ap⟩ := c_add (a := a1) (R := R) (L := L) (t := τ) (by rw [ea1, rdI (by decide)]; exact z3) (by omega) hg
  obtain ⟨a3, ea3, t3, f3, w3⟩ := c_goOnT (tR_ad ad t1)
  have e3 := c_goOn2 ea3
  obtain ⟨b', eb', pf, pm⟩ := m_put (b := g) (R := R) (C := C) (t := τ) z2 (by rw [gf.1 12 11 0 (by omega)]; exact z4) (by rw [g2]; exact z5) (by omega) hg
  have a39 : a3.1 7 9 0 = 0 := by rw [w3, ad.1 7 9 0 (by omega), ea1, rdI (by decide)]; exact fa
  refine ⟨a3, b', ?_, eb', sfC_t f1 (sfC_t (sfC_a ad) (sfC_p f3 (by rw [e3]))), sfM_t gf (sfM_a pf), Or.inl ⟨rfl, a39, by rw [pf.1]; exact g9, [τ], k + 1, nxB B t p, ⟨?_, ?_, ?_, by rw [pf.1]; exact g12, by omega, by rw [(exG_1 h1).2]; omega⟩, ?_, nx_gt pt, ⟨t3, e, ⟨mtx_of (by rw [pf.1]) (pf.2.1 47 0 (by decide)) mg.1, by rw [pf.1]; exact mg.2.1, mg.2.2⟩, en⟩, (exG_1 h1).1⟩⟩
  · rw [z1, Option.bind_some, ← ea1, ea2, Option.bind_some, ea3, Option.bind_some]
  · obtain ⟨x1, x2, x3, x4⟩ := ap
    have r18 : a3.2.2.2.1 18 R = a2.2.2.2.1 18 R := by rw [e3]
    refine ⟨by rw [f3.1 2 2 R (by omega)]; exact x1, fun j hj => by rw [r18, x2 j hj, ea1]; rfl, by rw [r18]; exact x3, ?_⟩
    rw [f3.1 2 3 R (by omega)]
    rw [ea1, rdI (by decide)] at x4
    exact x4
  · obtain ⟨x1, x2, x3⟩ := pm
    exact ⟨x1, fun j hj => by rw [x2 j hj, g2], x3⟩
  · rw [f3.1 3 3 0 (by decide), ad.1 3 3 0 (by omega), ea1, rdI_s]
  · have := nx_gt (B := B) pt
    show 1 + p ≤ _
    omega
theorem m_makes {h : xH} {p k : Nat} (e : h.1 12 12 0 = nI k) (hk : k ≤ 60) : f_M_makes (nI p) h = (if k = 60 then some (0, xsI h 12 9 0 (flt (h.1 12 9 0) p 3)) else some (1, xsI h 12 12 0 (nI (k + 1)))) := by
  have s0 : f_M_makes (nI p) h = (if h.1 12 12 0 = 60 then (f_M_fails 3 (nI p) h).bind nrm else some (1, xsI h 12 12 0 (h.1 12 12 0 + 1))) := rfl
  rw [s0, e]
  by_cases z : k = 60
  · rw [if_pos (by rw [z]; decide), if_pos z, show (3 : Int32) = nI 3 from rfl, m_fails, Option.bind_some, nrm_01 (Or.inl rfl)]
  · rw [if_neg (show ¬ nI k = 60 from fun y => z ((nI_eq (b := 60) (by omega) (by decide)).mp y)), if_neg z, nI_1]
theorem c_kindD {a : xH} {t p : Nat} {B : Nat → Nat} (ht : tR a t B p) (hd : ltB isDB B t p = true) : a.1 7 7 0 = 2 ∧ a.1 7 8 0 = if rn isDB B t p - p ≤ 5 then nI (nvB B t p) else -1 := by
  obtain ⟨_, x, np, _, _, _, _, _, _, _, _, k7, v7⟩ := ht
  obtain ⟨pt, d⟩ := ltB_t.mp hd
  refine ⟨?_, v7.2.2.1 pt d⟩
  rw [k7]
  unfold kdB
  rw [if_neg (show ¬ t ≤ p by omega), if_neg (dl_n d), if_pos d]
theorem c_kindN {a : xH} {t p : Nat} {B : Nat → Nat} (ht : tR a t B p) (hd : ¬ ltB isDB B t p = true) : ¬ a.1 7 7 0 = 2 := by
  obtain ⟨_, x, np, _, _, _, _, _, _, _, _, k7, v7⟩ := ht
  rw [k7]
  unfold kdB
  by_cases pt : t ≤ p
  · rw [if_pos pt]; decide
  rw [if_neg pt]
  split
  · decide
  · rw [if_neg (fun z => hd (ltB_t.mpr ⟨by omega, z⟩))]; decide
theorem c_kindW {a : xH} {t p i : Nat} {B : Nat → Nat} (ht : tR a t B p) (hi : i < 20) (hw : isWd B t p i) : a.1 7 7 0 = 1 ∧ a.1 7 8 0 = nI i := by
  have e := c_isWordT ht hi
  have s1 : f_Tape_isWord (nI i) a = (if a.1 7 7 0 = 1 then (if a.1 7 8 0 = nI i then some 1 else some 0) else some 0) := rfl
  rw [s1, ind_t hw] at e
  by_cases k : a.1 7 7 0 = 1
  · rw [if_pos k] at e
    by_cases v : a.1 7 8 0 = nI i
    · exact ⟨k, v⟩
    · rw [if_neg v] at e
      exact absurd e (by decide)
  · rw [if_neg k] at e
    exact absurd e (by decide)
theorem c_kind0 {a : xH} {t p : Nat} {B : Nat → Nat} (ht : tR a t B p) (hw : ∀ i, i < 12 → ¬ isWd B t p i) (k : a.1 7 7 0 = 1) : a.1 7 8 0 < 0 ∨ (12 : Int32) ≤ a.1 7 8 0 := by
  obtain ⟨_, x, np, _, _, _, _, _, _, _, _, k7, v7⟩ := ht
  rw [k7] at k
  unfold kdB at k
  by_cases pt : t ≤ p
  · rw [if_pos pt] at k
    exact absurd k (by decide)
  rw [if_neg pt] at k
  by_cases l : isLB (B p) = true
  · rcases v7.2.1 (by omega) l with ⟨e, _⟩ | ⟨j, hj, e, w⟩
    · rw [e]; exact Or.inl (by decide)
    · rw [e]
      refine Or.inr (nI_le (a := 12) ?_ (by omega))
      exact Nat.le_of_not_lt (fun z => hw j z w)
  · rw [if_neg l] at k
    split at k
    · exact absurd k (by decide)
    · exact absurd k (by decide)
theorem lk_value {a b : xH} {t p R L C k : Nat} {B : Nat → Nat} (hs : sy a b t B p) (fa : a.1 7 9 0 = 0) (fb : b.1 12 9 0 = 0) (hz : rz a b R L C k) (hL : L ≤ p) : ∃ a' r b', f_RuleReader_readValue a = some a' ∧ f_M_value b = some (r, b') ∧ sfC R a a' ∧ sfM R b b' ∧ os a b a' b' t B R L C k p r := by
  obtain ⟨ht, q, hm, hq⟩ := hs
  have pt := tR_le ht
  have t4 := hm.1.2.1
  obtain ⟨h, eh⟩ : ∃ h, h = xsI b 12 8 0 (nI p) := ⟨_, rfl⟩
  have hmh : mat h t B p := by rw [eh]; exact mat_s hm pt
  have hp : rn isSB B t p = p := by rw [← hq]; exact rn_id
  have bh : sfM R b h := by rw [eh]; exact sfM_I (by omega)
  have h9 : h.1 12 9 0 = 0 := by rw [eh, rdI (by decide)]; exact fb
  have h12 : h.1 12 12 0 = nI k := by rw [eh, rdI (by decide)]; exact hz.2.2.2.2.2.2.1
  have hh2 : h.2 = b.2 := by rw [eh]; rfl
  have k60 : k ≤ 60 := hz.2.2.2.2.2.2.2.1
  have a33 : a.1 3 3 0 = nI k := hz.2.2.2.2.2.1
  have r310 : a.2.2.1 3 1 0 = some R := hz.1
  have s0 : f_M_value b = (f_M_see b).bind (fun q3 => (f_M_isDigit (q3.2.1 12 8 0) q3.2).bind (fun r5 => if r5 = 0 then (f_M_wordHere q3.2).bind (fun q10 => if 0 ≤ q10.1 then (f_M_makes (q3.2.1 12 8 0) q10.2).bind (fun q14 => if q14.1 = 0 then some (0, q14.2) else (f_M_passWord q14.2).bind (fun h18 => (f_M_puts 1 q10.1 h18).bind (fun h21 => some (1, h21)))) else (f_M_fails 0 (q3.2.1 12 8 0) q10.2).bind nrm) else (f_M_numberHere 0 99999 q3.2).bind (fun q28 => if q28.1 = 0 then some (0, q28.2) else (f_M_makes (q3.2.1 12 8 0) q28.2).bind (fun q32 => if q32.1 = 0 then some (0, q32.2) else (f_M_puts 0 (q32.2.1 12 10 0) q32.2).bind (fun h36 => some (1, h36)))))) := rfl
  rw [m_see hm, Option.bind_some, hq, ← eh, hmh.2.1, m_isDigit hmh.1 (by omega), Option.bind_some, sel_e] at s0
  have e95 : ∀ v, f_RuleReader_readValue_b95 v a = (if a.1 3 3 0 < 60 then f_RuleReader_readValue_b112 v a else (f_Tape_fail 3 a).bind (fun h22 => f_RuleReader_readValue_b112 v h22)) := fun _ => rfl
  have e72 : ∀ v, f_RuleReader_readValue_b72 v a = (if v = 0 then f_RuleReader_readValue_b95 v a else if a.1 7 8 0 = -1 then (f_Tape_fail 1 a).bind (fun h26 => f_RuleReader_readValue_b95 v h26) else f_RuleReader_readValue_b95 v a) := fun _ => rfl
  have e55 : ∀ v w, f_RuleReader_readValue_b55 v w a = (if v = 0 then (if w = 0 then (f_Tape_fail 0 a).bind (fun h8 => f_RuleReader_readValue_b72 v h8) else f_RuleReader_readValue_b72 v a) else f_RuleReader_readValue_b72 v a) := fun _ _ => rfl
  have e112 : ∀ v, f_RuleReader_readValue_b112 v a = (if v = 0 then (a.2.2.1 3 1 0).bind (fun i => (f_Rule_add i ((xsI a 3 3 0 (a.1 3 3 0 + 1)).1 7 8 0) (xsI a 3 3 0 (a.1 3 3 0 + 1))).bind (fun h16 => (f_Tape_goOn h16).bind (fun h19 => some h19))) else (a.2.2.1 3 1 0).bind (fun i => (f_Rule_add i (100 + (xsI a 3 3 0 (a.1 3 3 0 + 1)).1 7 8 0) (xsI a 3 3 0 (a.1 3 3 0 + 1))).bind (fun h16 => (f_Tape_goOn h16).bind (fun h19 => some h19)))) := fun _ => rfl
  -- both fail here, with why w, the class going on with f
  have bad : ∀ w, w ≤ 7 → ∀ (f : xH → Option xH) (g : xH), (∀ a1, vS R t B a1 → vO R t B (f a1) a1) → f_RuleReader_readValue a = (f_Tape_fail (nI w) a).bind f → sfM R b g → g.1 12 9 0 = nI (1 + 8 * p + w) → f_M_value b = some (0, g) → ∃ a' r b', f_RuleReader_readValue a = some a' ∧ f_M_value b = some (r, b') ∧ sfC R a a' ∧ sfM R b b' ∧ os a b a' b' t B R L C k p r := fun w hw f g hf ef gf g9 eg => by
    obtain ⟨a1, ea1, t1, f1, w1, _, e2⟩ := c_failT (w := w) ht
    rw [fa, if_pos rfl] at w1
    have nz : ¬ a1.1 7 9 0 = 0 := by rw [w1]; exact flt_ne (by omega) hw
    obtain ⟨a2, ea2, f2, s2, w2⟩ := hf a1 ⟨by rw [e2]; exact r310, ⟨p, t1⟩, nz⟩
    exact ⟨a2, 0, g, by rw [ef, ea1, Option.bind_some, ea2], eg, sfC_t (sfC_p f1 (by rw [e2])) f2, gf, Or.inr ⟨rfl, s2.2.1, by rw [w2, w1, g9], s2.2.2⟩⟩
  by_cases D : ltB isDB B t p = true
  · obtain ⟨k7, k8⟩ := c_kindD ht D
    have c0 : f_RuleReader_readValue a = f_RuleReader_readValue_b72 1 a := by
      rw [c_valueE, if_pos k7, c_value16, if_neg (by rw [k7]; decide), e55, if_neg i1]
    obtain ⟨g, eg, m1, m2, m3, gf⟩ := m_numberHere hmh hp.symm 0 99999
    rw [if_pos D] at m1
    rw [if_pos D, eg, Option.bind_some] at s0
    have gg : sfM R b g := sfM_t bh (sfM_p gf)
    by_cases l5 : rn isDB B t p - p ≤ 5
    · rw [if_pos l5] at k8
      have nl := nvB_lt l5
      have G : numG B t p 0 99999 := ⟨D, l5, fun z => by
        rcases z with z | z
        · exact nI_pos (by omega) z
        · exact nI_nlt (a := 99999) (b := nvB B t p) (by omega) (by decide) z⟩
      obtain ⟨g10, g9⟩ := m2 G
      have g12 : g.1 12 12 0 = nI k := by rw [gf.1 12 12 0 (by omega)]; exact h12
      rw [ind_t G, if_neg i1, m_makes g12 k60] at s0
      rw [c0, e72, if_neg i1, if_neg (by rw [k8]; exact nI_nm1 (by omega)), e95, a33] at bad ⊢
      by_cases k6 : k = 60
      · rw [if_pos k6, Option.bind_some, if_pos rfl, g9, h9, flt_0] at s0
        rw [if_neg (by rw [k6]; decide)] at bad ⊢
        exact bad 3 (by decide) (fun h22 => f_RuleReader_readValue_b112 1 h22) _ (fun a1 s1 => v_b112 1 s1) rfl (sfM_t gg (sfM_I (by omega))) rdI_s s0
      · obtain ⟨g2, eg2⟩ : ∃ g2, g2 = xsI g 12 12 0 (nI (k + 1)) := ⟨_, rfl⟩
        rw [if_neg k6, Option.bind_some, if_neg i1, ← eg2] at s0
        have g210 : g2.1 12 10 0 = nI (nvB B t p) := by rw [eg2, rdI (by decide)]; exact g10
        rw [g210] at s0
        obtain ⟨a', b', x1, x2, x3, x4, x5⟩ := lk_tok (g := g2) (e := rn isDB B t p) (τ := (0, nvB B t p)) ht (ltB_t.mp D).1 t4 fa hz hL (by omega) ⟨Nat.zero_le 14, nl, fun z => absurd (show 0 = 1 from z) (by decide)⟩ (Nat.zero_le 1) (by rw [eg2]; exact ⟨mtx_of (rdI (by decide)) rfl m1.1, by rw [rdI (by decide)]; exact m1.2.1, m1.2.2⟩) (nx_num D) (by rw [eg2, rdI (by decide), g9]; exact h9) (sfM_t gg (by rw [eg2]; exact sfM_I (by omega))) (by rw [eg2]; show g.2 = _; rw [gf.2, hh2]) (by rw [eg2, rdI_s])
        have x2 : f_M_puts 0 (nI (nvB B t p)) g2 = some b' := x2
        rw [x2, Option.bind_some] at s0
        refine ⟨a', 1, b', ?_, s0, x3, x4, x5⟩
        rw [if_pos (show nI k < 60 from nI_lt (b := 60) (by omega) (by decide)), e112, if_neg i1, a33, nI_1, rdI (by decide), k8, show (100 : Int32) + nI (nvB B t p) = nI (cN (0, nvB B t p)) from nI_add 100 _]
        exact x1
    · rw [if_neg l5] at k8
      have G : ¬ numG B t p 0 99999 := fun z => l5 z.2.1
      have g9 := m3 G
      rw [h9, flt_0, show whyN B t p = 1 from if_pos D] at g9
      rw [ind_f G, if_pos rfl] at s0
      exact bad 1 (by decide) (fun h26 => f_RuleReader_readValue_b95 1 h26) g (fun a1 s1 => v_b95 1 s1) (by rw [c0, e72, if_neg i1, if_pos k8]; rfl) gg g9 s0
  · have k7 := c_kindN ht D
    obtain ⟨v, ev, hv⟩ := m_wordHere hmh hp
    rw [if_neg D, ev, Option.bind_some] at s0
    rcases hv with ⟨i, hi, rfl, hw⟩ | ⟨rfl, hw⟩
    · obtain ⟨k1, k8⟩ := c_kindW ht (by omega) hw
      have c0 : f_RuleReader_readValue a = f_RuleReader_readValue_b95 0 a := by
        rw [c_valueE, if_neg k7, c_value16, if_pos k1, k8, if_neg (nI_pos (by omega)), if_neg (show ¬ (12 : Int32) ≤ nI i from nI_ge (b := 12) hi (by decide)), e55, if_pos rfl, if_neg i1, e72, if_pos rfl]
      have wl := wd_l (by omega) hw
      rw [if_pos (show (0 : Int32) ≤ nI i from nI_le (a := 0) (Nat.zero_le i) (by omega)), m_makes h12 k60] at s0
      rw [c0, e95, a33] at bad ⊢
      by_cases k6 : k = 60
      · rw [if_pos k6, Option.bind_some, if_pos rfl, h9, flt_0] at s0
        rw [if_neg (by rw [k6]; decide)] at bad ⊢
        exact bad 3 (by decide) (fun h22 => f_RuleReader_readValue_b112 0 h22) _ (fun a1 s1 => v_b112 0 s1) rfl (sfM_t bh (sfM_I (by omega))) rdI_s s0
      · obtain ⟨g, eg⟩ : ∃ g, g = xsI h 12 12 0 (nI (k + 1)) := ⟨_, rfl⟩
        have gm : mat g t B p := by rw [eg]; exact ⟨mtx_of (rdI (by decide)) rfl hmh.1, by rw [rdI (by decide)]; exact hmh.2.1, pt⟩
        obtain ⟨g2, eg2⟩ : ∃ g2, g2 = xsI g 12 8 0 (nI (rn isLB B t p)) := ⟨_, rfl⟩
        rw [if_neg k6, Option.bind_some, if_neg i1, ← eg, m_passWord gm, Option.bind_some, ← eg2] at s0
        obtain ⟨a', b', x1, x2, x3, x4, x5⟩ := lk_tok (g := g2) (e := rn isLB B t p) (τ := (1, i)) ht (ltB_t.mp wl).1 t4 fa hz hL (by omega) ⟨show 1 ≤ 14 by decide, show i < 100000 by omega, fun _ => hi⟩ (Nat.le_refl 1) (by rw [eg2]; exact mat_s gm (rn_le p pt)) (nx_word wl) (by rw [eg2, rdI (by decide), eg, rdI (by decide)]; exact h9) (sfM_t bh (sfM_t (show sfM R h g by rw [eg]; exact sfM_I (by omega)) (by rw [eg2]; exact sfM_I (by omega)))) (by rw [eg2, eg]; exact hh2) (by rw [eg2, rdI (by decide), eg, rdI_s])
        have x2 : f_M_puts 1 (nI i) g2 = some b' := x2
        rw [x2, Option.bind_some] at s0
        refine ⟨a', 1, b', ?_, s0, x3, x4, x5⟩
        rw [if_pos (show nI k < 60 from nI_lt (b := 60) (by omega) (by decide)), e112, if_pos rfl, a33, nI_1, rdI (by decide), k8]
        exact x1
    · have c0 : f_RuleReader_readValue a = f_RuleReader_readValue_b55 0 0 a := by
        rw [c_valueE, if_neg k7, c_value16]
        by_cases k1 : a.1 7 7 0 = 1
        · rw [if_pos k1]
          rcases c_kind0 ht hw k1 with z | z
          · rw [if_pos z]
          · rw [if_pos z]
            split <;> rfl
        · rw [if_neg k1]
      rw [if_neg (show ¬ (0 : Int32) ≤ -1 by decide), show f_M_fails 0 (nI p) h = f_M_fails (nI 0) (nI p) h from rfl, m_fails, Option.bind_some, nrm_01 (Or.inl rfl), h9, flt_0] at s0
      exact bad 0 (by decide) (fun h8 => f_RuleReader_readValue_b72 0 h8) _ (fun a1 s1 => v_b72 0 s1) (by rw [c0, e55, if_pos rfl, if_pos rfl]; rfl) (sfM_t bh (sfM_I (by omega))) rdI_s s0
