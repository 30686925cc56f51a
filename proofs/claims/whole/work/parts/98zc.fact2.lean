/-! PURE: rule: a fact, one deeper -/
theorem mat_k {b b' : xH} {t q : Nat} {B : Nat → Nat} {R : Nat} (f : tfM R b b') (k : ∀ k, ¬ (k = 13 ∨ k = 16) → b'.1 12 k 0 = b.1 12 k 0) (h : mat b t B q) : mat b' t B q := ⟨mtx_of (k 1 (by decide)) (f.2.1 47 0 (by decide)) h.1, (k 8 (by decide)).trans h.2.1, h.2.2⟩
theorem fk_fail {t p w R : Nat} {B : Nat → Nat} {a b g : xH} (ht : tR a t B p) (fa : a.1 7 9 0 = 0) (t4 : t ≤ 400) (hw : w ≤ 7) (g9 : g.1 12 9 0 = nI (1 + 8 * p + w)) : ∃ a', f_Tape_fail (nI w) a = some a' ∧ sfC R a a' ∧ fk a' g t B := by
  have pt := tR_le ht
  obtain ⟨a2, ea2, t2, f2, w2, _, e2⟩ := c_failT (w := w) ht
  rw [fa, if_pos rfl] at w2
  exact ⟨a2, ea2, sfC_p f2 (by rw [e2]), ⟨p, t2⟩, by rw [w2, g9], by rw [w2]; exact flt_ne (by omega) hw⟩
theorem FACT_s {t R n : Nat} {B : Nat → Nat} (F : FACT t B R n) (T : TEST t B R n) : FACT t B R (n + 1) := fun v a b p L C k S hn hv hs fa fb hz hL hS ht => by
  obtain ⟨tt, q, hm, hq⟩ := id hs
  have pt := tR_le tt
  have t4 := hm.1.2.1
  have hR : R < 6 := hz.2.1
  have s0 : f_RuleReader_rF (n + 1) (nI v) a = f_RuleReader_readFact (f_RuleReader_readTest (f_RuleReader_readPart (f_RuleReader_rF n))) (f_RuleReader_rF n) (nI v) a := rfl
  rw [c_factE, show f_Tape_isWord 19 a = f_Tape_isWord (nI 19) a from rfl, c_isWordT tt (by decide), Option.bind_some] at s0
  -- too deep
  have deep : ∀ w, f_RuleReader_rF (n + 1) (nI v) a = f_RuleReader_readFact_b31 (f_RuleReader_readTest (f_RuleReader_readPart (f_RuleReader_rF n))) (f_RuleReader_rF n) (nI v) w a → v = 10 → mF b = some (0, xsI (xsI b 12 8 0 (nI p)) 12 9 0 (flt (b.1 12 9 0) p 2)) → ∃ a', f_RuleReader_rF (n + 1) (nI v) a = some a' ∧ sfC R a a' ∧ fo t B R a b a' (mF b) L C k p v S := fun w e1 v10 e2 => by
    rw [fb, flt_0] at e2
    obtain ⟨a', ea, f1, k1⟩ := fk_fail (R := R) (w := 2) (b := b) tt fa t4 (by decide) (show (xsI (xsI b 12 8 0 (nI p)) 12 9 0 (nI (1 + 8 * p + 2))).1 12 9 0 = _ from rdI_s)
    refine ⟨a', ?_, f1, Or.inr ⟨_, e2, k1, tfM_t (tfM_I (by omega)) (tfM_I (by omega))⟩⟩
    rw [e1, c_fact31, if_neg (by rw [v10]; decide), show f_Tape_fail 2 a = some a' from ea, Option.bind_some]
  have v31 : v < 10 → nI v < 10 := fun z => nI_lt (b := 10) z (by decide)
  by_cases w19 : isWd B t p 19
  · have wl := wd_l (by decide) w19
    have pt1 := (ltB_t.mp wl).1
    rw [ind_t w19, if_neg i1] at s0
    obtain ⟨o1, o2⟩ := m_Fnot (R := R) hm hq w19 ht (by omega)
    by_cases v10 : v = 10
    · exact deep 1 s0 v10 (o1 v10)
    obtain ⟨b1, e1, z1, u1, m1⟩ := o2 (by omega)
    obtain ⟨a1, ea1, t1, f1, w1⟩ := c_goOnT tt
    have e2 := c_goOn2 ea1
    have ng := nx_gt (B := B) pt1
    rw [c_fact31, if_pos (v31 (by omega)), ea1, Option.bind_some, if_neg i1, nI_1] at s0
    obtain ⟨a2, ea2, f2, o⟩ := F (v + 1) a1 b1 (nxB B t p) L C k (11 :: S) (by omega) (by omega) ⟨t1, _, m1, nx_word wl⟩ (w1.trans fa) (by rw [u1.2.1 9 (by decide)]; exact fb) (rz_pu hz f1 e2 u1) (by omega) (by show S.length + 1 ≤ _; omega) z1
    have fA : sfC R a a2 := sfC_t (sfC_p f1 (by rw [e2])) f2
    rw [ea2, Option.bind_some, fA.2.2, hz.1, Option.bind_some] at s0
    rw [e1]
    rcases o with ⟨x1, b2, l, k', p', x2, x3, x4, x5, x6, x7, x8, x9, x10⟩ | ⟨b2, x1, x2, x3⟩
    · have z2 := rz_ex (rz_pu hz f1 e2 u1) x4 f2.2.2 (x10.1 12 11 0 (by omega))
      obtain ⟨y1, y2, y3, y4, y5, y6, y7, y8, y9⟩ := id z2
      obtain ⟨tt', q', mm, hq'⟩ := x7
      have pt' := tR_le tt'
      obtain ⟨a3, ea3, ad, ap⟩ := c_add (a := a2) (R := R) (L := L + l.length) (t := (11, 0)) y3 (by omega) ⟨by decide, by decide, fun z => absurd z (by decide)⟩
      obtain ⟨b3, e3, z3, pm, f3, k3⟩ := m_Gnot (R := R) (C := C + l.length) x9 (by omega) hR y4 y5 (by omega) (by omega)
      have ea3 : f_Rule_add R 24 a2 = some a3 := ea3
      rw [ea3, Option.bind_some] at s0
      have ex1 : ex a b a2 b2 R L C k l k' := ex_of (c := a1) (d := b1) (fun z => f1.1 2 z R (by omega)) (by rw [e2]) (u1.2.2 48 (by decide)) x4
      have ex2 : ex a2 b2 a3 b3 R (L + l.length) (C + l.length) k' [(11, 0)] k' := ⟨ap, pm, by rw [ad.1 3 3 0 (by omega)]; exact y6, by rw [k3 12 (by decide)]; exact y7, y8, by show k' + 0 ≤ k'; omega⟩
      refine ⟨a3, s0, sfC_t fA (sfC_a ad), Or.inl ⟨by rw [ad.1 7 9 0 (by omega)]; exact x1, b3, l ++ [(11, 0)], k', p', x2.trans e3, by rw [k3 9 (by decide)]; exact x3, ex_t ex1 ex2, ?_, by omega, ⟨tR_ad ad tt', q', mat_k f3 k3 mm, hq'⟩, exT_not x8, z3, tfM_t u1.1 (tfM_t x10 f3)⟩⟩
      rw [List.length_append]
      show l.length + 1 + p ≤ p'
      omega
    · obtain ⟨a3, ea3, f3, s3, w3⟩ := v_add (R := R) (t := t) (B := B) (a := a2) 24 ⟨by rw [fA.2.2]; exact hz.1, x2.1, x2.2.2⟩
      rw [ea3, Option.bind_some] at s0
      exact ⟨a3, s0, sfC_t fA f3, Or.inr ⟨b2, x1, ⟨s3.2.1, w3.trans x2.2.1, s3.2.2⟩, tfM_t u1.1 x3⟩⟩
  rw [ind_f w19, if_pos rfl, show f_Tape_isSign 91 a = f_Tape_isSign (nI 91) a from rfl, c_sign2 (s := 91) tt (by decide) (by decide) (by decide) (by decide) (by decide), Option.bind_some] at s0
  by_cases b91 : p < t ∧ B p = 91
  · obtain ⟨pt1, hB⟩ := b91
    rw [if_pos (show p < t ∧ B p = 91 from ⟨pt1, hB⟩), if_neg i1] at s0
    obtain ⟨o1, o2⟩ := m_Fopen (R := R) hm hq pt1 hB ht (by omega)
    by_cases v10 : v = 10
    · exact deep 0 s0 v10 (o1 v10)
    obtain ⟨b1, e1, z1, u1, m1⟩ := o2 (by omega)
    obtain ⟨a1, ea1, t1, f1, w1⟩ := c_goOnT tt
    have e2 := c_goOn2 ea1
    have ng := nx_gt (B := B) pt1
    have nwq : ¬ weqB B t p = true := fun z => by have := (weq_61 z).1; omega
    rw [c_fact31, if_pos (v31 (by omega)), ea1, Option.bind_some, if_pos rfl, nI_1] at s0
    obtain ⟨a2, ea2, f2, o⟩ := T (v + 1) a1 b1 (nxB B t p) L C k (91 :: S) (by omega) (by omega) ⟨t1, _, m1, nx_sign pt1 (by rw [hB]; decide) (by rw [hB]; decide) nwq⟩ (w1.trans fa) (by rw [u1.2.1 9 (by decide)]; exact fb) (rz_pu hz f1 e2 u1) (by omega) (by show S.length + 1 ≤ _; omega) z1 (fun x T e => by cases e; rfl)
    have fA : sfC R a a2 := sfC_t (sfC_p f1 (by rw [e2])) f2
    rw [ea2, Option.bind_some] at s0
    rw [e1]
    have eC : f_RuleReader_readClosing a2 = (f_Tape_isSign 93 a2).bind (fun r1 => if r1 = 0 then (f_Tape_fail 0 a2).bind (fun h6 => some h6) else (f_Tape_goOn a2).bind (fun h9 => some h9)) := rfl
    rcases o with ⟨x1, b2, l, π, k', p', x2, x3, x4, x5, x6, x7, x8, x9, x10, x11, x12, n17, n18⟩ | ⟨b2, x1, x2, x3⟩
    · obtain ⟨tt', q', mm, hq'⟩ := x7
      have pt' := tR_le tt'
      have hp' : rn isSB B t p' = p' := by rw [← hq']; exact rn_id
      have l5 : (π ++ 91 :: S).length ≤ 400 := by
        have x12 : π.length + (S.length + 1) ≤ p' := x12
        rw [List.length_append]
        show π.length + (S.length + 1) ≤ 400
        omega
      have gs := m_Gstop x9 l5 (fun T e => by
        cases π with
        | nil => cases e
        | cons y π' =>
          have := x11 y (List.mem_cons_self ..)
          injection e with e1 e2
          omega)
      obtain ⟨x4a, x4b, x4c, x4d, x4e, x4f⟩ := x4
      have e11 : b2.1 12 11 0 = nI R := by rw [x10.1 12 11 0 (by omega), u1.2.1 11 (by decide)]; exact hz.2.2.2.1
      have CL : C ≤ L := hz.2.2.2.2.2.2.2.2
      rw [eC, show f_Tape_isSign 93 a2 = f_Tape_isSign (nI 93) a2 from rfl, c_sign2 (s := 93) tt' (by decide) (by decide) (by decide) (by decide) (by decide), Option.bind_some] at s0
      by_cases b93 : p' < t ∧ B p' = 93
      · obtain ⟨pt2, hB2⟩ := b93
        rw [if_pos (show p' < t ∧ B p' = 93 from ⟨pt2, hB2⟩), if_neg i1] at s0
        obtain ⟨a3, ea3, t3, f3, w3⟩ := c_goOnT tt'
        have e3 := c_goOn2 ea3
        rw [ea3, Option.bind_some, Option.bind_some] at s0
        obtain ⟨b3, g1, g2, g3, g4, g5, g6⟩ := m_ClYes (R := R) (C := C + l.length) mm hq' pt2 hB2 x9 x11 l5 hR e11 x4b.1 (by omega) (by omega)
        have nwq2 : ¬ weqB B t p' = true := fun z => by have := (weq_61 z).1; omega
        have ng2 := nx_gt (B := B) pt2
        have am : apM b b3 R C (l ++ tk0 π) := apM_t (l := l) (b := b2) ⟨x4b.1, fun j hj => by rw [x4b.2.1 j hj, u1.2.2 48 (by decide)], x4b.2.2⟩ g3
        have nt : np (tk0 π) = 0 := by
          unfold np tk0
          rw [List.filter_eq_nil_iff.mpr (fun y hy => by
            obtain ⟨x, hx, rfl⟩ := List.mem_map.mp hy
            have := x11 x hx
            simp
            omega)]
          rfl
        have ac : apC a a3 R L (l ++ tk0 π) := by
          obtain ⟨c1, c2, c3, c4⟩ := x4a
          have r18 : a3.2.2.2.1 18 R = a2.2.2.2.1 18 R := by rw [e3]
          refine ⟨by rw [f3.1 2 2 R (by omega)]; exact c1, fun j hj => by rw [r18, c2 j hj, e2], by rw [r18]; exact c3, ?_⟩
          rw [f3.1 2 3 R (by omega)]
          rw [f1.1 2 3 R (by omega)] at c4
          exact c4
        refine ⟨a3, s0, sfC_t fA (sfC_p f3 (by rw [e3])), Or.inl ⟨w3.trans x1, b3, l ++ tk0 π, k', nxB B t p', (x2.trans gs).trans g1, by rw [g6 9 (by decide)]; exact x3, ⟨ac, am, by rw [f3.1 3 3 0 (by decide)]; exact x4c, by rw [g6 12 (by decide)]; exact x4d, x4e, by rw [np_a, nt]; omega⟩, ?_, by omega, ⟨t3, p' + 1, g5, nx_sign pt2 (by rw [hB2]; decide) (by rw [hB2]; decide) nwq2⟩, x8, g2, tfM_t u1.1 (tfM_t x10 g4)⟩⟩
        rw [List.length_append, tk0_len]
        omega
      · rw [if_neg b93, if_pos rfl] at s0
        obtain ⟨h, eh⟩ : ∃ h, h = xsI b2 12 8 0 (nI p') := ⟨_, rfl⟩
        have cn := m_ClNo mm hq' x9 l5 (fun z => b93 ⟨z.1, z.2.1⟩)
        have mh : mat h t B p' := by rw [eh]; exact mat_s mm pt'
        have zh : tz h (v + 1) (π ++ 91 :: S) := by rw [eh]; exact tz_of (rdI (by decide)) (rdI (by decide)) rfl x9
        have h9 : h.1 12 9 0 = 0 := by rw [eh, rdI (by decide)]; exact x3
        rw [← eh] at cn
        have e4 := m_b112i mh hp' zh l5 (List.mem_append.mpr (Or.inr (List.mem_cons_self ..)))
        rw [h9, flt_0] at e4
        obtain ⟨a3, ea3, f3, k3⟩ := fk_fail (R := R) (w := 0) (b := b) (g := xsI h 12 9 0 (nI (1 + 8 * p' + 0))) tt' x1 t4 (by decide) rdI_s
        rw [show f_Tape_fail 0 a2 = some a3 from ea3, Option.bind_some, Option.bind_some] at s0
        exact ⟨a3, s0, sfC_t fA f3, Or.inr ⟨_, (((x2.trans gs).trans cn).trans (m_K2no mh hp' n18 n17)).trans e4, k3, tfM_t u1.1 (tfM_t x10 (tfM_t (show tfM R b2 h by rw [eh]; exact tfM_I (by omega)) (tfM_I (by omega))))⟩⟩
    · obtain ⟨a3, ea3, f3, s3, w3⟩ := v_close (R := R) (t := t) (B := B) (a := a2) ⟨by rw [fA.2.2]; exact hz.1, x2.1, x2.2.2⟩
      rw [ea3, Option.bind_some] at s0
      exact ⟨a3, s0, sfC_t fA f3, Or.inr ⟨b2, x1, ⟨s3.2.1, w3.trans x2.2.1, s3.2.2⟩, tfM_t u1.1 x3⟩⟩
  · rw [if_neg b91, if_pos rfl] at s0
    obtain ⟨a', ea, f1, o⟩ := fact_cmp hs fa fb hz hL ht w19 b91
    rw [ea, Option.bind_some] at s0
    exact ⟨a', s0, f1, o⟩
