/-! PURE: rule: a clause, both sides, from its word -/
theorem lk_cl {a b : xH} {t p R k : Nat} {B : Nat → Nat} {cs : List Cl} (hs : sy a b t B p) (fa : a.1 7 9 0 = 0) (fb : b.1 12 9 0 = 0) (hi : clI a b R cs k) (hL : szc cs + cs.length ≤ p) : ∃ a' r b', f_RuleReader_readClause a = some a' ∧ f_M_clauseHere b = some (r, b') ∧ ruC R a a' ∧ ruM R b b' ∧ ou a' b' t B R cs.length r := by
  obtain ⟨hz, i2, i3, h51, e32, e14, n12, -⟩ := id hi
  obtain ⟨z1, R6, z3, e11, e49, z6, z7, k60, CL⟩ := id hz
  obtain ⟨ht, q, hm, hq⟩ := id hs
  have pt := tR_le ht
  have t4 := hm.1.2.1
  obtain ⟨h, eh⟩ : ∃ h, h = xsI b 12 8 0 (nI p) := ⟨_, rfl⟩
  have hmh : mat h t B p := by rw [eh]; exact mat_s hm pt
  have hp : rn isSB B t p = p := by rw [← hq]; exact rn_id
  have gI : ∀ k, ¬ k = 8 → h.1 12 k 0 = b.1 12 k 0 := fun k z => by rw [eh, rdI (by omega)]
  have hA : ∀ f i, h.2.2.2.1 f i = b.2.2.2.1 f i := fun f i => by rw [eh]; rfl
  have bh : ruM R b h := by rw [eh]; exact ruM_I (by omega)
  have s0 : f_M_clauseHere b = (f_M_see b).bind (fun q3 => if q3.2.1 12 11 0 = 6 then f_M_clauseHere_b24 (q3.2.1 12 8 0) 1 q3.2 else f_M_clauseHere_b24 (q3.2.1 12 8 0) 0 q3.2) := rfl
  rw [m_see hm, Option.bind_some, hq, ← eh, gI 11 (by decide), e11, if_neg (show ¬ nI R = 6 from fun z => by have := (nI_eq (b := 6) (by omega) (by decide)).mp z; omega), hmh.2.1] at s0
  have e24 : f_M_clauseHere_b24 (nI p) 0 h = (if (0 : Int32) = 0 then (f_M_isWord 1818846836 h).bind (fun q9 => if q9.1 = 0 then f_M_clauseHere_b49 (nI p) q9.2 else f_M_clauseHere_b56 (nI p) 0 q9.2) else (f_M_isTrugWord h).bind (fun q33 => if q33.1 = 0 then f_M_clauseHere_b49 (nI p) q33.2 else f_M_clauseHere_b56 (nI p) 0 q33.2)) := rfl
  rw [e24, if_pos rfl, m_isW hmh hp (by decide) kLift, Option.bind_some] at s0
  have h9 : h.1 12 9 0 = 0 := by rw [gI 9 (by decide)]; exact fb
  have c0 : f_RuleReader_readClause a = (f_Tape_isWord 15 a).bind (fun r1 => if r1 = 0 then (f_Tape_fail 0 a).bind (fun h6 => some h6) else if a.1 3 2 0 < 12 then (f_Tape_goOn (xsI a 3 2 0 (a.1 3 2 0 + 1))).bind (fun h11 => (f_RuleReader_readSum h11).bind cRest) else (f_Tape_fail 4 a).bind (fun h37 => some h37)) := rfl
  rw [show (15 : Int32) = nI 15 from rfl, c_isWordT ht (by decide), Option.bind_some] at c0
  have bad : ∀ w : Nat, w ≤ 7 → f_RuleReader_readClause a = (f_Tape_fail (nI w) a).bind (fun h6 => some h6) → f_M_clauseHere b = (f_M_fails (nI w) (nI p) h).bind nrm → ∃ a' r b', f_RuleReader_readClause a = some a' ∧ f_M_clauseHere b = some (r, b') ∧ ruC R a a' ∧ ruM R b b' ∧ ou a' b' t B R cs.length r := fun w hw x y => by
    obtain ⟨a', ea', f', mf, k'⟩ := lk_fail (w := w) ht fa h9 t4 hw
    obtain ⟨a9, ea9, -, -, -, -, e29⟩ := c_failT (w := w) ht
    have e99 : a9 = a' := Option.some.inj (ea9.symm.trans ea')
    rw [e99] at e29
    exact ⟨a', 0, _, by rw [x, ea', Option.bind_some], by rw [y, mf, Option.bind_some, nrm_01 (Or.inl rfl)], ruC_s (sfC_p f' (by rw [e29])), ruM_t bh (ruM_I (by omega)), Or.inr ⟨rfl, k'⟩⟩
  by_cases W : isWd B t p 15
  · rw [ind_t W, if_neg i1] at s0 c0
    have e56 : f_M_clauseHere_b56 (nI p) 0 h = (if (0 : Int32) = 0 then f_M_clauseHere_b71 (nI p) 0 12 (h.1 12 14 0) h else f_M_clauseHere_b71 (nI p) 0 40 (h.1 12 14 0) h) := rfl
    have e71 : f_M_clauseHere_b71 (nI p) 0 12 (h.1 12 14 0) h = (if h.1 12 14 0 = 12 then (f_M_fails 4 (nI p) h).bind nrm else if (0 : Int32) = 0 then (f_M_isLiftHere (xsI h 12 14 0 (h.1 12 14 0 + 1))).bind nrm else (f_M_trugLineHere (nI p) (xsI h 12 14 0 (h.1 12 14 0 + 1))).bind nrm) := rfl
    rw [e56, if_pos (rfl : (0 : Int32) = 0), e71, if_pos (rfl : (0 : Int32) = 0), gI 14 (by decide), e14, nI_1] at s0
    rw [e32, nI_1] at c0
    by_cases c12 : cs.length = 12
    · rw [if_pos (show nI cs.length = 12 by rw [c12]; rfl)] at s0
      rw [if_neg (show ¬ nI cs.length < 12 by rw [c12]; decide)] at c0
      exact bad 4 (by decide) c0 s0
    · have n11 : cs.length < 12 := by omega
      rw [if_neg (show ¬ nI cs.length = 12 from fun z => c12 ((nI_eq (b := 12) (by omega) (by decide)).mp z))] at s0
      rw [if_pos (show nI cs.length < 12 from nI_lt (b := 12) n11 (by decide))] at c0
      obtain ⟨g, eg⟩ : ∃ g, g = xsI h 12 14 0 (nI (cs.length + 1)) := ⟨_, rfl⟩
      obtain ⟨a1, ea1⟩ : ∃ a1, a1 = xsI a 3 2 0 (nI (cs.length + 1)) := ⟨_, rfl⟩
      rw [← eg] at s0
      rw [← ea1] at c0
      have t1 : tR a1 t B p := by rw [ea1]; exact tR_of (fun _ => rdI (by omega)) (fun _ _ _ => rfl) ht
      obtain ⟨a2, ea2, t2, f2, w2⟩ := c_goOnT t1
      have a22 := c_goOn2 ea2
      rw [ea2, Option.bind_some] at c0
      have gm : mat g t B p := by rw [eg]; exact ⟨mtx_of (rdI (by decide)) rfl hmh.1, by rw [rdI (by decide)]; exact hmh.2.1, pt⟩
      obtain ⟨g1, eg1⟩ : ∃ g1, g1 = xsI g 12 8 0 (nI (rn isLB B t p)) := ⟨_, rfl⟩
      have ep : f_M_passWord g = some g1 := by rw [eg1]; exact m_passWord gm
      have m1 : mat g1 t B (rn isLB B t p) := by rw [eg1]; exact mat_s gm (rn_le p pt)
      have nx := nx_word (wd_l (by decide) W)
      have g1I : ∀ k, ¬ k = 8 → ¬ k = 14 → g1.1 12 k 0 = b.1 12 k 0 := fun k z z' => by rw [eg1, rdI (by omega), eg, rdI (by omega)]; exact gI k z
      have g114 : g1.1 12 14 0 = nI (cs.length + 1) := by rw [eg1, rdI (by decide), eg, rdI_s]
      have g1A : ∀ f i, g1.2.2.2.1 f i = b.2.2.2.1 f i := fun f i => by rw [eg1, eg]; exact hA f i
      rw [m_L1 (R := R) (n := cs.length) (C := szc cs) ep R6 n11 (by rw [g1I 11 (by decide) (by decide)]; exact e11) (by rw [g1A]; exact e49) (by rw [g1A]; exact h51)] at s0
      obtain ⟨g2, eg2⟩ : ∃ g2, g2 = s50 g1 (48 * R + 4 * cs.length) (nI (szc cs)) := ⟨_, rfl⟩
      rw [← eg2] at s0
      have m2 : mat g2 t B (rn isLB B t p) := by rw [eg2]; exact mat_A (by decide) m1
      have g2I : g2.1 = g1.1 := by rw [eg2]; rfl
      have g2A : ∀ f i, ¬ f = 50 → g2.2.2.2.1 f i = b.2.2.2.1 f i := fun f i z => by rw [eg2, s50_A z, g1A]
      have g20 : ∀ j, j < 48 * R + 4 * cs.length → g2.2.2.2.1 50 0 j = b.2.2.2.1 50 0 j := fun j hj => by rw [eg2, s50_n (by omega), g1A]
      have g21 : g2.2.2.2.1 50 0 (48 * R + 4 * cs.length) = nI (szc cs) := by rw [eg2, s50_s]
      have F2 : ruC R a a2 := ruC_t (show ruC R a a1 by rw [ea1]; exact ruC_3) (ruC_s (sfC_p f2 (by rw [a22])))
      have a1I : ∀ c k i, ¬ (c = 3 ∧ k = 2) → a1.1 c k i = a.1 c k i := fun c k i z => by rw [ea1, rdI_3 (by omega)]
      have M2 : ruM R b g2 := ruM_t bh (ruM_t (show ruM R h g by rw [eg]; exact ruM_I (by omega)) (ruM_t (show ruM R g g1 by rw [eg1]; exact ruM_I (by omega)) (by rw [eg2]; exact ruM_50 (by omega))))
      have z2 : rz a2 g2 R (szc cs + cs.length) (szc cs) k := ⟨by rw [F2.2.2]; exact z1, R6, by rw [f2.1 2 2 R (by decide), a1I 2 2 R (by decide)]; exact z3, by rw [g2I, g1I 11 (by decide) (by decide)]; exact e11, by rw [g2A 49 0 (by decide)]; exact e49, by rw [f2.1 3 3 0 (by decide), a1I 3 3 0 (by decide)]; exact z6, by rw [g2I, g1I 12 (by decide) (by decide)]; exact z7, k60, CL⟩
      have ppn := nx_gt (B := B) (wd_t (by decide) W)
      obtain ⟨a3, r3, b3, ea3, eb3, f3, g3, o3⟩ := lk_sum (t := t) (B := B) (a := a2) (b := g2) (p := nxB B t p) ⟨t2, _, m2, nx⟩ (by rw [w2, a1I 7 9 0 (by decide)]; exact fa) (by rw [g2I, g1I 9 (by decide) (by decide)]; exact fb) z2 (by omega)
      rw [ea3, Option.bind_some] at c0
      have e2 : mL2 (nI (48 * R + 4 * cs.length)) g2 = (if r3 = 0 then some (0, b3) else mL3 (nI (48 * R + 4 * cs.length)) b3) := by
        unfold mL2
        rw [eb3, Option.bind_some]
      rw [e2] at s0
      have F3 : ruC R a a3 := ruC_t F2 (ruC_s f3)
      have M3 : ruM R b b3 := ruM_t M2 (ruM_f (tfM_s g3))
      rcases o3 with ⟨rfl, w3, x3, l, k1, p3, E3, l3, lt3, s3, G3⟩ | ⟨rfl, K3⟩
      · rw [if_neg i1] at s0
        have E : ex a b a3 b3 R (szc cs + cs.length) (szc cs) k l k1 := ex_of (fun z => by rw [f2.1 2 z R (by omega), a1I 2 z R (by omega)]) (by rw [f2.2 18 R (by omega), ea1]; rfl) (g2A 48 0 (by decide)) E3
        obtain ⟨a', r, b', x1, x2, x3', x4, x5⟩ := lk_cl2 hi n11 E F3.2.2 (by rw [g3.1 12 11 0 (by omega), g2I, g1I 11 (by decide) (by decide)]; exact e11) (fun j hj => by rw [g3.2.1 50 0 (by omega)]; exact g20 j hj) (by rw [g3.2.1 50 0 (by omega)]; exact g21) (by rw [g3.2.1 51 0 (by omega), g2A 51 0 (by decide)]; exact h51) (by rw [f3.1 3 2 0 (by omega) (by omega) (by omega), f2.1 3 2 0 (by decide), ea1, rdI_s]) (by rw [g3.1 12 14 0 (by omega), g2I]; exact g114) s3 w3 x3 G3 (by omega)
        refine ⟨a', r, b', by rw [c0]; exact x1, ?_, ruC_t F3 x3', ruM_t M3 x4, x5⟩
        rw [s0, x2, Option.bind_some]
        refine nrm_01 ?_
        rcases x5 with x5 | x5
        · exact Or.inr x5.1
        · exact Or.inl x5.1
      · rw [if_pos rfl, Option.bind_some, nrm_01 (Or.inl rfl)] at s0
        obtain ⟨a6, ea6, f6, s6, w6⟩ := v_addR (a := a3) (R := R) (t := t) (B := B) 26 (f := fun h21 => some h21) ⟨by rw [F3.2.2]; exact z1, K3.1, K3.2.2⟩ (fun a1 s1 => v_s s1)
        refine ⟨a6, 0, b3, ?_, s0, ruC_t F3 (ruC_s f6), M3, Or.inr ⟨rfl, fk_v K3 s6.2.1 w6⟩⟩
        rw [c0]
        unfold cRest
        rw [c_well, Option.bind_some, if_neg K3.2.2, if_pos rfl]
        exact ea6
  · rw [ind_f W, if_pos rfl] at s0 c0
    exact bad 0 (by decide) c0 s0
