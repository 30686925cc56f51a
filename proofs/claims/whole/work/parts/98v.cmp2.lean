/-! PURE: rule: a comparison, both sides -/
theorem lk_cmp {a b : xH} {t p R L C k : Nat} {B : Nat → Nat} (hs : sy a b t B p) (fa : a.1 7 9 0 = 0) (fb : b.1 12 9 0 = 0) (hz : rz a b R L C k) (hL : L ≤ p) : ∃ a' r b', f_RuleReader_readComparison a = some a' ∧ f_M_compare b = some (r, b') ∧ sfC R a a' ∧ sfM R b b' ∧ ot a b a' b' t B R L C k p r := by
  have s0 : f_RuleReader_readComparison a = (f_RuleReader_readSum a).bind (fun h3 => (f_Tape_isWell h3).bind (fun r4 => if r4 = 0 then some h3 else (f_RuleReader_comparisonHere h3).bind (fun r7 => if r7 = -1 then (f_Tape_fail 0 h3).bind (fun h12 => some h12) else if h3.1 3 3 0 < 60 then f_RuleReader_readComparison_b51 r7 h3 else (f_Tape_fail 3 h3).bind (fun h27 => f_RuleReader_readComparison_b51 r7 h27)))) := rfl
  have c0 : f_M_compare b = (f_M_sum b).bind (fun q3 => if q3.1 = 0 then some (0, q3.2) else (f_M_see q3.2).bind (fun q7 => if q7.1 = 60 then f_M_compare_b44 q7.1 (q7.2.1 12 8 0) q7.2 else if q7.1 = 61 then f_M_compare_b44 q7.1 (q7.2.1 12 8 0) q7.2 else if q7.1 = 62 then f_M_compare_b44 q7.1 (q7.2.1 12 8 0) q7.2 else (f_M_fails 0 (q7.2.1 12 8 0) q7.2).bind nrm)) := rfl
  obtain ⟨a1, r1, b1, ea1, eb1, f1, g1, o1⟩ := lk_sum hs fa fb hz hL
  rw [ea1, Option.bind_some, c_well, Option.bind_some] at s0
  rw [eb1, Option.bind_some] at c0
  rcases o1 with ⟨rfl, x1, x2, l, k1, p1, x3, x4, x5, x6, x7⟩ | ⟨rfl, x1⟩
  · obtain ⟨ht, q, hm, hq⟩ := id x6
    have pt := tR_le ht
    have t4 := hm.1.2.1
    have z1 := rz_ex hz x3 f1.2.2 (g1.1 12 11 0 (by omega))
    obtain ⟨y1, y2, y3, y4, y5, y6, y7, y8, y9⟩ := id z1
    obtain ⟨h, eh⟩ : ∃ h, h = xsI b1 12 8 0 (nI p1) := ⟨_, rfl⟩
    have mh : mat h t B p1 := by rw [eh]; exact mat_s hm pt
    have hp : rn isSB B t p1 = p1 := by rw [← hq]; exact rn_id
    have bh : sfM R b h := sfM_t g1 (by rw [eh]; exact sfM_I (by omega))
    have h9 : h.1 12 9 0 = 0 := by rw [eh, rdI (by decide)]; exact x2
    rw [if_pos x1, if_neg i1, c_cmpHere ht, Option.bind_some] at s0
    rw [if_neg i1, m_see hm, Option.bind_some, hq, ← eh, mh.2.1] at c0
    have cd : ∀ s, s < 128 → (cdB B t p1 = nI s ↔ p1 < t ∧ B p1 = s) := fun s hs => m_cd hm.1 hs
    have bad : ∀ w, w ≤ 7 → ∀ (f : xH → Option xH) (g : xH), (∀ a1, vS R t B a1 → vO R t B (f a1) a1) → f_RuleReader_readComparison a = (f_Tape_fail (nI w) a1).bind f → sfM R b g → g.1 12 9 0 = nI (1 + 8 * p1 + w) → f_M_compare b = some (0, g) → ∃ a' r b', f_RuleReader_readComparison a = some a' ∧ f_M_compare b = some (r, b') ∧ sfC R a a' ∧ sfM R b b' ∧ ot a b a' b' t B R L C k p r := fun w hw f g hf ef gf g9 eg => by
      obtain ⟨a2, ea2, t2, f2, w2, _, e2⟩ := c_failT (w := w) ht
      rw [x1, if_pos rfl] at w2
      have nz : ¬ a2.1 7 9 0 = 0 := by rw [w2]; exact flt_ne (by omega) hw
      obtain ⟨a3, ea3, f3, s3, w3⟩ := hf a2 ⟨by rw [e2]; exact y1, ⟨p1, t2⟩, nz⟩
      exact ⟨a3, 0, g, by rw [ef, ea2, Option.bind_some, ea3], eg, sfC_t f1 (sfC_t (sfC_p f2 (by rw [e2])) f3), gf, Or.inr ⟨rfl, s3.2.1, by rw [w3, w2, g9], s3.2.2⟩⟩
    cases ho : cmpO B t p1 with
    | none =>
      rw [ho] at s0
      have n0 : ¬ cdB B t p1 = 60 := fun z => by
        obtain ⟨u1, u2⟩ := (cd 60 (by decide)).mp z
        unfold cmpO at ho
        rw [if_pos u1, if_pos u2] at ho
        split at ho <;> cases ho
      have n1 : ¬ cdB B t p1 = 61 := fun z => by
        obtain ⟨u1, u2⟩ := (cd 61 (by decide)).mp z
        unfold cmpO at ho
        rw [if_pos u1, if_neg (by omega), if_pos u2] at ho
        cases ho
      have n2 : ¬ cdB B t p1 = 62 := fun z => by
        obtain ⟨u1, u2⟩ := (cd 62 (by decide)).mp z
        unfold cmpO at ho
        rw [if_pos u1, if_neg (by omega), if_neg (by omega), if_pos u2] at ho
        split at ho <;> cases ho
      rw [if_neg n0, if_neg n1, if_neg n2, show f_M_fails 0 (nI p1) h = f_M_fails (nI 0) (nI p1) h from rfl, m_fails, Option.bind_some, nrm_01 (Or.inl rfl), h9, flt_0] at c0
      exact bad 0 (by decide) (fun h12 => some h12) _ (fun a1 s1 => v_s s1) s0 (sfM_t bh (sfM_I (by omega))) rdI_s c0
    | some o =>
      rw [ho] at s0
      obtain ⟨pt1, hB, o6, o10⟩ := cmpO_r ho
      have og : opG o := by unfold opG; omega
      have b8 : B p1 < 256 := (ht.1.2.2 p1 pt1).2
      have ce : f_M_compare b = mCmp p1 o (xsI h 12 8 0 (nI (enB B t p1))) := by
        have cp : cdB B t p1 = nI (B p1) := if_pos pt1
        rw [c0, cp]
        rcases hB with z | z | z
        · rw [if_pos (show nI (B p1) = 60 by rw [z]; rfl)]; exact m_cmp44 mh ho
        · rw [if_neg (show ¬ nI (B p1) = 60 by rw [z]; decide), if_pos (show nI (B p1) = 61 by rw [z]; rfl)]; exact m_cmp44 mh ho
        · rw [if_neg (show ¬ nI (B p1) = 60 by rw [z]; decide), if_neg (show ¬ nI (B p1) = 61 by rw [z]; decide), if_pos (show nI (B p1) = 62 by rw [z]; rfl)]; exact m_cmp44 mh ho
      obtain ⟨g, eg⟩ : ∃ g, g = xsI h 12 8 0 (nI (enB B t p1)) := ⟨_, rfl⟩
      have gm : mat g t B (enB B t p1) := by rw [eg]; exact mat_s mh (enB_le pt1)
      have gb : sfM R b g := sfM_t bh (by rw [eg]; exact sfM_I (by omega))
      have g9 : g.1 12 9 0 = 0 := by rw [eg, rdI (by decide)]; exact h9
      have g12 : g.1 12 12 0 = nI k1 := by rw [eg, rdI (by decide), eh, rdI (by decide)]; exact y7
      have gg2 : g.2 = b1.2 := by rw [eg, eh]; rfl
      rw [← eg] at ce
      unfold mCmp at ce
      rw [m_makes g12 y8] at ce
      have cN1 : ¬ nI (cN (o, 0)) = -1 := nI_nm1 (by have := (cN_op (t := (o, 0)) (show o ≠ 0 by omega) (show o ≠ 1 by omega) (show o ≠ 11 by omega) (show o ≤ 14 by omega)).2; omega)
      have s1 : f_RuleReader_readComparison a = (if a1.1 3 3 0 < 60 then f_RuleReader_readComparison_b51 (nI (cN (o, 0))) a1 else (f_Tape_fail 3 a1).bind (fun h27 => f_RuleReader_readComparison_b51 (nI (cN (o, 0))) h27)) := by
        rw [s0]; exact if_neg cN1
      rw [y6] at s1
      by_cases k6 : k1 = 60
      · rw [if_pos k6, Option.bind_some, if_pos rfl, g9, flt_0] at ce
        rw [if_neg (by rw [k6]; decide)] at s1
        exact bad 3 (by decide) (fun h27 => f_RuleReader_readComparison_b51 (nI (cN (o, 0))) h27) _ (fun a1 s1 => v_b51 _ s1) s1 (sfM_t gb (sfM_I (by omega))) rdI_s ce
      · obtain ⟨g2, eg2⟩ : ∃ g2, g2 = xsI g 12 12 0 (nI (k1 + 1)) := ⟨_, rfl⟩
        rw [if_neg k6, Option.bind_some, if_neg i1, ← eg2] at ce
        have e51 : f_RuleReader_readComparison_b51 (nI (cN (o, 0))) a1 = (f_Tape_goOn (xsI a1 3 3 0 (a1.1 3 3 0 + 1))).bind (fun h17 => (f_RuleReader_readSum h17).bind (fun h20 => (h20.2.2.1 3 1 0).bind (fun i => (f_Rule_add i (nI (cN (o, 0))) h20).bind (fun h24 => some h24)))) := rfl
        rw [if_pos (show nI k1 < 60 from nI_lt (b := 60) (by omega) (by decide)), e51, y6, nI_1] at s1
        obtain ⟨a2, ea2⟩ : ∃ a2, a2 = xsI a1 3 3 0 (nI (k1 + 1)) := ⟨_, rfl⟩
        rw [← ea2] at s1
        have f2 : sfC R a1 a2 := by rw [ea2]; exact ⟨fun c k i _ _ q => rdI q, fun _ _ _ _ => rfl, rfl⟩
        have t2 : tR a2 t B p1 := by rw [ea2]; exact tR_of (fun _ => rdI (by omega)) (fun _ _ _ => rfl) ht
        obtain ⟨a3, ea3, t3, f3, w3⟩ := c_goOnT t2
        have e3 := c_goOn2 ea3
        have f13 : sfC R a1 a3 := sfC_t f2 (sfC_p f3 (by rw [e3]))
        have m2 : mat g2 t B (enB B t p1) := by rw [eg2]; exact ⟨mtx_of (rdI (by decide)) rfl gm.1, by rw [rdI (by decide)]; exact gm.2.1, gm.2.2⟩
        have nx : rn isSB B t (enB B t p1) = nxB B t p1 := by unfold nxB; rw [if_pos pt1]
        have ng := nx_gt (B := B) pt1
        have z2 : rz a3 g2 R (L + l.length) (C + l.length) (k1 + 1) := ⟨by rw [f13.2.2]; exact y1, y2, by rw [f3.1 2 2 R (by omega), ea2, rdI (by decide)]; exact y3, by rw [eg2, rdI (by decide), eg, rdI (by decide), eh, rdI (by decide)]; exact y4, by rw [eg2]; show g.2.2.2.1 49 0 R = _; rw [gg2]; exact y5, by rw [f3.1 3 3 0 (by decide), ea2, rdI_s], by rw [eg2, rdI_s], by omega, y9⟩
        rw [ea3, Option.bind_some] at s1
        obtain ⟨a4, r4, b4, ea4, eb4, f4, g4, o4⟩ := lk_sum (R := R) (L := L + l.length) (C := C + l.length) (k := k1 + 1) ⟨t3, enB B t p1, m2, nx⟩ (by rw [w3, ea2, rdI (by decide)]; exact x1) (by rw [eg2, rdI (by decide)]; exact g9) z2 (by omega)
        have fA : sfC R a a4 := sfC_t f1 (sfC_t f13 f4)
        have gB : sfM R b b4 := sfM_t gb (sfM_t (by rw [eg2]; exact sfM_I (by omega)) g4)
        rw [ea4, Option.bind_some, fA.2.2, hz.1, Option.bind_some] at s1
        rw [eb4, Option.bind_some] at ce
        rcases o4 with ⟨rfl, u1, u2, l2, k2, p2, u3, u4, u5, u6, u7⟩ | ⟨rfl, u1⟩
        · rw [if_neg i1] at ce
          obtain ⟨tt, q', mm, hq'⟩ := id u6
          have pt' := tR_le tt
          have z3 := rz_ex z2 u3 f4.2.2 (g4.1 12 11 0 (by omega))
          obtain ⟨v1, v2, v3, v4, v5, v6, v7, v8, v9⟩ := id z3
          obtain ⟨a5, ea5, ad, ap⟩ := c_add (a := a4) (R := R) (L := L + l.length + l2.length) (t := (o, 0)) v3 (by omega) (op_tk og)
          obtain ⟨b5, eb5, pf, pm⟩ := m_put (b := b4) (R := R) (C := C + l.length + l2.length) (t := (o, 0)) v2 v4 v5 (by omega) (op_tk og)
          have eb5 : f_M_puts (nI o) (nI 0) b4 = some b5 := eb5
          rw [ea5, Option.bind_some] at s1
          rw [eb5, Option.bind_some] at ce
          have s5 : sy a5 b5 t B p2 := ⟨tR_ad ad tt, q', ⟨mtx_of (by rw [pf.1]) (pf.2.1 47 0 (by decide)) mm.1, by rw [pf.1]; exact mm.2.1, mm.2.2⟩, hq'⟩
          have ex2 : ex a1 b1 a4 b4 R (L + l.length) (C + l.length) k1 l2 k2 := ex_k (ex_of (c := a3) (d := g2) (fun z => by rw [f3.1 2 z R (by omega), ea2, rdI (by omega)]) (by rw [e3, ea2]; rfl) (by rw [eg2]; show g.2.2.2.1 48 0 = _; rw [gg2]) u3)
          have ex3 : ex a4 b4 a5 b5 R (L + l.length + l2.length) (C + l.length + l2.length) k2 [(o, 0)] k2 := ⟨ap, pm, by rw [ad.1 3 3 0 (by omega)]; exact u3.2.2.1, by rw [pf.1]; exact u3.2.2.2.1, u3.2.2.2.2.1, by rw [op_np og]; omega⟩
          refine ⟨a5, 1, b5, s1, ce, sfC_t fA (sfC_a ad), sfM_t gB (sfM_a pf), Or.inl ⟨rfl, by rw [ad.1 7 9 0 (by omega)]; exact u1, by rw [pf.1]; exact u2, l ++ (l2 ++ [(o, 0)]), k2, p2, ex_t x3 (ex_t ex2 ex3), ?_, by omega, s5, exT_c ⟨o6, o10⟩ x7 u7⟩⟩
          rw [List.length_append, List.length_append]
          show l.length + (l2.length + 1) + p ≤ p2
          omega
        · rw [if_pos rfl] at ce
          obtain ⟨a5, ea5, f5, s5, w5⟩ := v_add (R := R) (t := t) (B := B) (a := a4) (nI (cN (o, 0))) ⟨by rw [fA.2.2]; exact hz.1, u1.1, u1.2.2⟩
          rw [ea5, Option.bind_some] at s1
          exact ⟨a5, 0, b4, s1, ce, sfC_t fA f5, gB, Or.inr ⟨rfl, s5.2.1, w5.trans u1.2.1, s5.2.2⟩⟩
  · rw [if_neg x1.2.2, if_pos rfl] at s0
    rw [if_pos rfl] at c0
    exact ⟨a1, 0, b1, s0, c0, f1, g1, Or.inr ⟨rfl, x1⟩⟩
