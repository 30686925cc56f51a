/-! PURE: rule: all clauses -/
theorem clI_of {a b a' b' : xH} {R k : Nat} {cs : List Cl} (hi : clI a b R cs k) (e1 : a'.2.2.1 = a.2.2.1) (e2 : ∀ z, a'.1 2 z R = a.1 2 z R) (e3 : ∀ z, a'.1 3 z 0 = a.1 3 z 0) (e4 : a'.2.2.2.1 18 R = a.2.2.2.1 18 R) (e5 : ∀ z, 11 ≤ z → b'.1 12 z 0 = b.1 12 z 0) (e6 : ∀ f, b'.2.2.2.1 f 0 = b.2.2.2.1 f 0) : clI a' b' R cs k := by
  obtain ⟨⟨z1, z2, z3, z4, z5, z6, z7, z8, z9⟩, i2, i3, i4, i5, i6, i7, i8⟩ := hi
  exact ⟨⟨by rw [e1]; exact z1, z2, by rw [e2]; exact z3, by rw [e5 11 (by decide)]; exact z4, by rw [e6]; exact z5, by rw [e3]; exact z6, by rw [e5 12 (by decide)]; exact z7, z8, z9⟩, by rw [e6, e6]; exact i2, by rw [e4]; exact i3, by rw [e6]; exact i4, by rw [e3]; exact i5, by rw [e5 14 (by decide)]; exact i6, i7, by rw [e2]; exact i8⟩
theorem c_l33_0 {v : Int32} {h : xH} : f_RuleReader_readAll_l33 0 v h = some (h.1 7 9 0, h) := by
  refine whl_up (X := some (h.1 7 9 0, h)) ?_
  show (if (12 : Int32) < v then xup (some (h.1 7 9 0, h)) else if (0 : Int32) = 0 then xup (some (h.1 7 9 0, h)) else _) = _
  rw [if_pos (rfl : (0 : Int32) = 0)]
  split <;> rfl
theorem lk_allR {R : Nat} : ∀ m n, n + m = 13 → n ≤ 12 → ∀ (a b : xH) (t p k : Nat) (cs : List Cl) (B : Nat → Nat), sy a b t B p → a.1 7 9 0 = 0 → b.1 12 9 0 = 0 → clI a b R cs k → cs.length = n → szc cs + cs.length ≤ p → ∃ f a' b' q, f_RuleReader_readAll_l33 1 (nI n) a = some (f, a') ∧ f_M_clauseHere b = some q ∧ f_M_readsAll_l35 q.1 q.2 = some (if f = 0 then 1 else 0, b') ∧ b'.1 12 9 0 = f ∧ ruC R a a' ∧ ruM R b b' ∧ b'.1 12 1 0 = 0 ∧ (f = 0 → ∃ cs k, clI a' b' R cs k ∧ szc cs + cs.length ≤ 400)
  | 0, n, hk, hc => by omega
  | m + 1, n, hk, c12 => fun a b t p k cs B hs fa fb hi hn hL => by
    obtain ⟨a1, r, b1, ea1, eb1, f1, g1, ho⟩ := lk_cl hs fa fb hi hL
    have t4 : t ≤ 400 := by obtain ⟨_, q, hm, _⟩ := hs; exact hm.1.2.1
    have st : ∀ x a2, f_Tape_goToClause a1 = some (x, a2) → f_RuleReader_readAll_l33 1 (nI n) a = f_RuleReader_readAll_l33 x (nI (n + 1)) a2 := fun x a2 e => by
      refine whl_st (s' := (x, nI (n + 1), a2)) ?_
      show (if (12 : Int32) < nI n then _ else if (1 : Int32) = 0 then _ else (f_RuleReader_readClause a).bind (fun h13 => (f_Tape_goToClause h13).bind (fun q16 => some (Sum.inl (q16.1, nI n + 1, q16.2))))) = _
      rw [if_neg (show ¬ (12 : Int32) < nI n from nI_nlt (a := 12) c12 (by decide)), if_neg i1, ea1, Option.bind_some, e, Option.bind_some, nI_1]
    rcases ho with ⟨rfl, fa1, fb1, cs1, k1, p1, d1, l1, L1, s1⟩ | ⟨rfl, fk1⟩
    · obtain ⟨ht, q, hm, hq⟩ := id s1
      have pt := tR_le ht
      obtain ⟨b2, eb2⟩ : ∃ b2, b2 = xsI b1 12 8 0 (nI p1) := ⟨_, rfl⟩
      have m2 : mat b2 t B p1 := by rw [eb2]; exact mat_s hm pt
      have hp : rn isSB B t p1 = p1 := by rw [← hq]; exact rn_id
      have g2 : ruM R b b2 := ruM_t g1 (by rw [eb2]; exact ruM_I (by omega))
      have b29 : b2.1 12 9 0 = 0 := by rw [eb2, rdI (by decide)]; exact fb1
      have see2 : f_M_see b1 = some (cdB B t p1, b2) := by rw [m_see hm, hq, eb2]
      have see3 : f_M_see b2 = some (cdB B t p1, b2) := by rw [m_see m2, hp, xsI_ide m2.2.1]
      have c1 := c_toClause (h := a1)
      have c59 := c_isSignT (s := 59) ht (by decide) (by decide) (by decide)
      rw [c_well, Option.bind_some, if_pos fa1, if_neg i1, show (59 : Int32) = nI 59 from rfl, c59, Option.bind_some] at c1
      have n1 : cs1.length ≤ 12 := d1.2.2.2.2.2.2.1
      by_cases S : p1 < t ∧ B p1 = 59
      · have nw : ¬ weqB B t p1 = true := fun z => by
          unfold weqB at z
          rw [S.2, Bool.and_eq_true] at z
          exact absurd z.1 (by decide)
        have nx : rn isSB B t (p1 + 1) = nxB B t p1 := nx_sign S.1 (by rw [S.2]; decide) (by rw [S.2]; decide) nw
        obtain ⟨a3, ea3, t3, f3, w3⟩ := c_goOnT ht
        have a32 := c_goOn2 ea3
        rw [if_pos (show p1 < t ∧ B p1 = 59 ∧ ¬ weqB B t p1 = true from ⟨S.1, S.2, nw⟩), if_neg i1, ea3, Option.bind_some] at c1
        obtain ⟨b3, eb3⟩ : ∃ b3, b3 = xsI b2 12 8 0 (nI (p1 + 1)) := ⟨_, rfl⟩
        have m3 : mat b3 t B (p1 + 1) := by rw [eb3]; exact mat_s m2 (by omega)
        have g3 : ruM R b b3 := ruM_t g2 (by rw [eb3]; exact ruM_I (by omega))
        have b3I : ∀ k, ¬ k = 8 → b3.1 12 k 0 = b1.1 12 k 0 := fun k z => by rw [eb3, rdI (by omega), eb2, rdI (by omega)]
        have ppn := nx_gt (B := B) S.1
        have f3' : ruC R a1 a3 := ruC_s (sfC_p f3 (by rw [a32]))
        obtain ⟨f, a', b', q', y1, y2, y3, y4, y5, y6, y7, y8⟩ := lk_allR m (n + 1) (by omega) (by omega) a3 b3 t (nxB B t p1) k1 cs1 B ⟨t3, p1 + 1, m3, nx⟩ (w3.trans fa1) (by rw [b3I 9 (by decide)]; exact fb1) (clI_of d1 (by rw [a32]) (fun z => f3.1 2 z R (by omega)) (fun z => f3.1 3 z 0 (by omega)) (f3.2 18 R (by omega)) (fun z hz => b3I z (by omega)) (fun f => by rw [eb3, eb2]; rfl)) (by omega) (by omega)
        refine ⟨f, a', b', (1, b1), by rw [st 1 a3 c1]; exact y1, eb1, ?_, y4, ruC_t (ruC_t f1 f3') y5, ruM_t g3 y6, y7, y8⟩
        have e35 : f_M_readsAll_l35 1 b1 = f_M_readsAll_l35 q'.1 q'.2 := by
          refine whl_st (s' := (q'.1, q'.2)) ?_
          show (if (1 : Int32) = 0 then _ else (f_M_see b1).bind (fun q23 => if q23.1 = 59 then (f_M_clauseHere (xsI q23.2 12 8 0 (q23.2.1 12 8 0 + 1))).bind (fun q28 => some (Sum.inl (q28.1, q28.2))) else xup (f_M_readsAll_b66 1 q23.2))) = _
          rw [if_neg i1, see2, Option.bind_some, if_pos (show cdB B t p1 = 59 by unfold cdB; rw [if_pos S.1, S.2]; rfl), m2.2.1, nI_1, ← eb3, y2, Option.bind_some]
        show f_M_readsAll_l35 1 b1 = _
        rw [e35]
        exact y3
      · rw [if_neg (show ¬ (p1 < t ∧ B p1 = 59 ∧ ¬ weqB B t p1 = true) from fun z => S ⟨z.1, z.2.1⟩), if_pos rfl] at c1
        have nb : ∀ z : p1 < t, B p1 < 256 := fun z => (ht.1.2.2 p1 z).2
        have n59 : ¬ cdB B t p1 = 59 := fun z => by
          unfold cdB at z
          by_cases y : p1 < t
          · rw [if_pos y] at z
            have := nb y
            exact S ⟨y, (nI_eq (b := 59) (by omega) (by decide)).mp z⟩
          · rw [if_neg y] at z
            exact absurd z (by decide)
        have e35 : f_M_readsAll_l35 1 b1 = f_M_readsAll_b66 1 b2 := by
          refine whl_up ?_
          show (if (1 : Int32) = 0 then _ else (f_M_see b1).bind (fun q23 => if q23.1 = 59 then (f_M_clauseHere (xsI q23.2 12 8 0 (q23.2.1 12 8 0 + 1))).bind (fun q28 => some (Sum.inl (q28.1, q28.2))) else xup (f_M_readsAll_b66 1 q23.2))) = _
          rw [if_neg i1, see2, Option.bind_some, if_neg n59]
        have e66 : f_M_readsAll_b66 1 b2 = (if (1 : Int32) = 0 then f_M_readsAll_b88 b2 else (f_M_see b2).bind (fun q16 => if q16.1 = -1 then f_M_readsAll_b88 q16.2 else (f_M_fails 0 (q16.2.1 12 8 0) q16.2).bind (fun q20 => f_M_readsAll_b88 q20.2))) := rfl
        rw [if_neg i1, see3, Option.bind_some] at e66
        obtain ⟨_, x, np, _, _, _, _, _, _, _, _, k7, _⟩ := id ht
        by_cases y : p1 < t
        · have k0' : ¬ a1.1 7 7 0 = 0 := by
            rw [k7]
            unfold kdB
            rw [if_neg (show ¬ t ≤ p1 by omega)]
            split
            · decide
            · split <;> decide
          obtain ⟨a3, ea3, f3, mf, k3⟩ := lk_fail (w := 0) ht fa1 b29 t4 (by decide)
          obtain ⟨a9, ea9, -, -, -, -, e29⟩ := c_failT (w := 0) ht
          have e99 : a9 = a3 := Option.some.inj (ea9.symm.trans ea3)
          rw [e99] at e29
          have mf : f_M_fails 0 (nI p1) b2 = some (0, xsI b2 12 9 0 (nI (1 + 8 * p1 + 0))) := mf
          rw [if_neg k0', show f_Tape_fail 0 a1 = some a3 from ea3, Option.bind_some] at c1
          obtain ⟨b4, eb4⟩ : ∃ b4, b4 = xsI b2 12 9 0 (nI (1 + 8 * p1 + 0)) := ⟨_, rfl⟩
          rw [← eb4] at mf k3
          rw [if_neg (show ¬ cdB B t p1 = -1 from fun z => by unfold cdB at z; rw [if_pos y] at z; have := nb y; exact nI_nm1 (by omega) z), m2.2.1, mf, Option.bind_some, m_b88, rdI (by decide), ← k3.2.1, if_neg k3.2.2] at e66
          refine ⟨a3.1 7 9 0, a3, xsI b4 12 1 0 0, (1, b1), by rw [st 0 a3 c1, c_l33_0], eb1, ?_, by rw [rdI (by decide)]; exact k3.2.1.symm, ruC_t f1 (ruC_s (sfC_p f3 (by rw [e29]))), ruM_t g2 (ruM_t (by rw [eb4]; exact ruM_I (by omega)) (ruM_I (by omega))), rdI_s, fun z => absurd z k3.2.2⟩
          show f_M_readsAll_l35 1 b1 = _
          rw [e35, e66, if_neg k3.2.2]
        · have k0' : a1.1 7 7 0 = 0 := by
            rw [k7]
            unfold kdB
            rw [if_pos (show t ≤ p1 by omega)]
          rw [if_pos k0'] at c1
          rw [if_pos (show cdB B t p1 = -1 by unfold cdB; rw [if_neg y]), m_b88, rdI (by decide), b29, if_pos rfl] at e66
          refine ⟨0, a1, xsI b2 12 1 0 0, (1, b1), by rw [st 0 a1 c1, c_l33_0, fa1], eb1, ?_, by rw [rdI (by decide)]; exact b29, f1, ruM_t g2 (ruM_I (by omega)), rdI_s, fun _ => ⟨cs1, k1, clI_of d1 rfl (fun _ => rfl) (fun _ => rfl) rfl (fun z hz => by rw [rdI (by omega), eb2, rdI (by omega)]) (fun f => by rw [eb2]; rfl), by omega⟩⟩
          show f_M_readsAll_l35 1 b1 = _
          rw [e35, e66, if_pos rfl]
    · have c1 := c_toClause (h := a1)
      rw [c_well, Option.bind_some, if_neg fk1.2.2, if_pos rfl] at c1
      have e88 := m_b88 (h := b1)
      rw [rdI (by decide), ← fk1.2.1, if_neg fk1.2.2] at e88
      refine ⟨a1.1 7 9 0, a1, xsI b1 12 1 0 0, (0, b1), by rw [st 0 a1 c1, c_l33_0], eb1, ?_, by rw [rdI (by decide)]; exact fk1.2.1.symm, f1, ruM_t g1 (ruM_I (by omega)), rdI_s, fun z => absurd z fk1.2.2⟩
      show f_M_readsAll_l35 0 b1 = _
      rw [m_l35_0, e88, if_neg fk1.2.2]
