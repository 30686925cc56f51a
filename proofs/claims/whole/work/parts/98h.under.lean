/-! PURE: clauses of a trug: under -/
theorem ltn {v n : Nat} {B : Nat → Nat} {t p : Nat} {lo : Int32} (h : numG B t p lo (nI n - 1)) (hv : v = nvB B t p) : v < n := by
  subst hv
  have l1 := nvB_lt h.2.1
  cases n with
  | zero =>
    exact absurd (Or.inr (show nI 0 - 1 < nI (nvB B t p) by
      rw [Int32.lt_iff_toInt_lt, nI_toInt (by omega), show (nI 0 - 1).toInt = -1 by decide]
      omega)) h.2.2
  | succ k =>
    have := h.2.2
    rw [nI_pred] at this
    exact Nat.lt_succ_of_le (ub this l1)
theorem dl_n {b : Nat} (h : isDB b = true) : ¬ isLB b = true := fun z => by
  have h1 := of_decide_eq_true h
  have h2 := of_decide_eq_true z
  omega
theorem c_same {a : xH} {t p v : Nat} {B : Nat → Nat} (ht : tR a t B p) (hv : v < 100000) : (a.1 7 7 0 = 2 ∧ a.1 7 8 0 = nI v) ↔ (ltB isDB B t p = true ∧ rn isDB B t p - p ≤ 5 ∧ nvB B t p = v) := by
  obtain ⟨_, x, np, _, _, _, _, _, _, _, _, k7, v7⟩ := ht
  rw [k7]
  unfold kdB
  constructor
  · rintro ⟨h1, h2⟩
    by_cases c1 : t ≤ p
    · rw [if_pos c1] at h1
      exact absurd h1 (by decide)
    rw [if_neg c1] at h1
    by_cases c2 : isLB (B p) = true
    · rw [if_pos c2] at h1
      exact absurd h1 (by decide)
    rw [if_neg c2] at h1
    by_cases c3 : isDB (B p) = true
    · have w := v7.2.2.1 (by omega) c3
      refine ⟨ltB_t.mpr ⟨by omega, c3⟩, ?_⟩
      by_cases c4 : rn isDB B t p - p ≤ 5
      · rw [if_pos c4, h2] at w
        have l := nvB_lt c4
        exact ⟨c4, ((nI_eq (by omega) (by unfold nvB at l; omega)).mp w).symm⟩
      · rw [if_neg c4, h2] at w
        exact absurd w (nI_nm1 (by omega))
    · rw [if_neg c3] at h1
      exact absurd h1 (by decide)
  · rintro ⟨h1, h2, h3⟩
    obtain ⟨pt, d⟩ := ltB_t.mp h1
    rw [if_neg (show ¬ t ≤ p by omega), if_neg (dl_n d), if_pos d]
    refine ⟨rfl, ?_⟩
    rw [v7.2.2.1 pt d, if_pos h2]
    exact congrArg nI h3
/-- the reference behind its word -/
noncomputable def mUnder (b : xH) : Option (Int32 × xH) := (f_M_numberHere 0 (rd b 3 - 1) b).bind (fun q6 => if q6.1 = 0 then some (0, q6.2) else (f_M_see q6.2).bind (fun q11 => (f_M_numberHere 0 (rd q11.2 3 - 1) q11.2).bind (fun q15 => if q15.1 = 0 then some (0, q15.2) else if q6.2.1 12 10 0 = q15.2.1 12 10 0 then (f_M_fails 1 (q11.2.1 12 8 0) q15.2).bind (fun q20 => if q20.1 = 0 ∨ q20.1 = 1 then some (q20.1, q20.2) else none) else if xib (72 + q6.2.1 12 10 0) 80 then (if xib (72 + q6.2.1 12 10 0) 80 then some (1, xsA q15.2 52 0 (upd (q15.2.2.2.2.1 52 0) (72 + q6.2.1 12 10 0).toNatClampNeg ((q15.2.2.2.2.1 52 0 (72 + q6.2.1 12 10 0).toNatClampNeg) ||| ((1 : Int32) <<< (q15.2.1 12 10 0 &&& 31))))) else none) else none)))
theorem m_under {b : xH} : f_M_isUnderHere b = (f_M_passWord b).bind mUnder := rfl
theorem lk_under {a b : xH} {t p n m : Nat} {B : Nat → Nat} (hs : sy a b t B p) (fa : a.1 7 9 0 = 0) (fb : b.1 12 9 0 = 0) (hd : dD a b n m) : ∃ a' r b', f_TrugReader_readUnder a = some a' ∧ mUnder b = some (r, b') ∧ rcF a a' ∧ rmF b b' ∧ a'.1 9 2 0 = a.1 9 2 0 ∧ b'.1 12 14 0 = b.1 12 14 0 ∧ rd b' 0 = rd b 0 ∧ oc a' b' t B r := by
  have r3 : rd b 3 = nI n := hd.2.2.1
  have a3' : a.1 8 3 5 = nI n := hd.2.1
  have n8 : n ≤ 8 := hd.2.2.2.1
  have s0 : f_TrugReader_readUnder a = (f_TrugReader_readNumber 0 (a.1 8 3 5 - 1) a).bind (fun q3 => if q3.2.1 7 7 0 = 2 then (if q3.2.1 7 8 0 = q3.1 then (f_Tape_fail 1 q3.2).bind (fun h8 => f_TrugReader_readUnder_b45 q3.1 h8) else f_TrugReader_readUnder_b45 q3.1 q3.2) else f_TrugReader_readUnder_b45 q3.1 q3.2) := rfl
  have sb : ∀ v h, f_TrugReader_readUnder_b45 v h = (f_TrugReader_readNumber 0 (h.1 8 3 5 - 1) h).bind (fun q11 => (f_Tape_isWell q11.2).bind (fun r12 => if r12 = 0 then some q11.2 else (f_Told_hasSorrow 5 v q11.2).bind (fun r15 => if r15 = 0 then some q11.2 else if xib v 8 then (if xib v 8 then some (xsA q11.2 40 5 (upd (q11.2.2.2.2.1 40 5) v.toNatClampNeg ((q11.2.2.2.2.1 40 5 v.toNatClampNeg) ||| ((1 : Int32) <<< (q11.1 &&& 31))))) else none) else none))) := fun _ _ => rfl
  have m0 : mUnder b = (f_M_numberHere 0 (rd b 3 - 1) b).bind (fun q6 => if q6.1 = 0 then some (0, q6.2) else (f_M_see q6.2).bind (fun q11 => (f_M_numberHere 0 (rd q11.2 3 - 1) q11.2).bind (fun q15 => if q15.1 = 0 then some (0, q15.2) else if q6.2.1 12 10 0 = q15.2.1 12 10 0 then (f_M_fails 1 (q11.2.1 12 8 0) q15.2).bind (fun q20 => if q20.1 = 0 ∨ q20.1 = 1 then some (q20.1, q20.2) else none) else if xib (72 + q6.2.1 12 10 0) 80 then (if xib (72 + q6.2.1 12 10 0) 80 then some (1, xsA q15.2 52 0 (upd (q15.2.2.2.2.1 52 0) (72 + q6.2.1 12 10 0).toNatClampNeg ((q15.2.2.2.2.1 52 0 (72 + q6.2.1 12 10 0).toNatClampNeg) ||| ((1 : Int32) <<< (q15.2.1 12 10 0 &&& 31))))) else none) else none))) := rfl
  obtain ⟨r1, a1, b1, ea1, eb1, f1, g1, y1, n1⟩ := lk_num hs fa fb 0 (nI n - 1) (by decide)
  rw [a3', ea1, Option.bind_some] at s0
  rw [r3, eb1, Option.bind_some] at m0
  -- the class reads on in vain
  have vain : ∀ v a2 p2, tR a2 t B p2 → ¬ a2.1 7 9 0 = 0 → ∃ a3, f_TrugReader_readUnder_b45 v a2 = some a3 ∧ tpF a2 a3 ∧ (∃ p', tR a3 t B p') ∧ a3.1 7 9 0 = a2.1 7 9 0 := fun v a2 p2 t2 w => by
    obtain ⟨r3, a3, ea3, f3, p3, e3⟩ := c_vain t2 w 0 (a2.1 8 3 5 - 1) (by decide)
    refine ⟨a3, ?_, f3, p3, e3⟩
    rw [sb, ea3, Option.bind_some, c_well, Option.bind_some, if_neg (show ¬ a3.1 7 9 0 = 0 by rw [e3]; exact w), if_pos rfl]
  by_cases G1 : numG B t p 0 (nI n - 1)
  · obtain ⟨x1, x2, x3, x4, x5⟩ := y1 G1
    have hd1 := dD_p f1 g1 hd
    have l1 := ltn G1 rfl
    obtain ⟨v1, hv1⟩ : ∃ v1, v1 = nvB B t p := ⟨_, rfl⟩
    rw [← hv1] at x1 x2 l1
    obtain ⟨p2, hp2⟩ : ∃ p2, p2 = nxB B t p := ⟨_, rfl⟩
    rw [← hp2] at x3
    subst x1
    obtain ⟨t1, q, hm, hq⟩ := x3
    have p2t := tR_le t1
    rw [ind_t G1, if_neg i1, m_see hm, Option.bind_some, hq] at m0
    obtain ⟨b2, eb2⟩ : ∃ b2, b2 = xsI b1 12 8 0 (nI p2) := ⟨_, rfl⟩
    have m2 : mat b2 t B p2 := by rw [eb2]; exact mat_s hm p2t
    have p2e : rn isSB B t p2 = p2 := by rw [← hq]; exact rn_id
    have b2r : rd b2 3 = nI n := by rw [eb2]; exact hd1.2.2.1
    have b28 : b2.1 12 8 0 = nI p2 := m2.2.1
    have b29 : b2.1 12 9 0 = 0 := by rw [eb2, rdI (by decide)]; exact x5
    have g2 : mnF b b2 := mnF_t g1 ⟨fun c k i z => by rw [eb2, rdI (by omega)], by rw [eb2]; rfl⟩
    rw [← eb2] at m0
    have s2 : sy a1 b2 t B p2 := ⟨t1, p2, m2, p2e⟩
    have hd2 : dD a1 b2 n m := dD_p f1 g2 hd
    obtain ⟨r3', a3, b3, ea3, eb3, f3, g3, y3, n3⟩ := lk_num s2 x4 b29 0 (nI n - 1) (by decide)
    rw [b2r, eb3, Option.bind_some, b28, x2] at m0
    have e83 : a1.1 8 3 5 = nI n := hd1.2.1
    by_cases G3 : numG B t p2 0 (nI n - 1)
    · obtain ⟨z1, z2, z3, z4, z5⟩ := y3 G3
      have l3 := ltn G3 rfl
      obtain ⟨v3, hv3⟩ : ∃ v3, v3 = nvB B t p2 := ⟨_, rfl⟩
      rw [← hv3] at z1 z2 l3
      rw [ind_t G3, if_neg i1, z2] at m0
      by_cases C : v3 = v1
      · obtain ⟨k7, k8⟩ := (c_same t1 (v := v1) (by omega)).mpr ⟨G3.1, G3.2.1, by rw [← hv3]; exact C⟩
        rw [if_pos k7, if_pos k8] at s0
        obtain ⟨a4, ea4, t4, f4, w4, _, _⟩ := c_failT (w := 1) t1
        rw [x4, if_pos rfl] at w4
        have nz : ¬ a4.1 7 9 0 = 0 := by rw [w4]; exact flt_ne (by have := hm.1.2.1; omega) (by decide)
        obtain ⟨a5, ea5, f5, p5, e5⟩ := vain (nI v1) a4 p2 t4 nz
        rw [show (1 : Int32) = nI 1 from rfl, ea4, Option.bind_some, ea5] at s0
        rw [if_pos (show nI v1 = nI v3 by rw [C]), show (1 : Int32) = nI 1 from rfl, m_fails, Option.bind_some, if_pos (Or.inl rfl), z5, flt_0] at m0
        have fA : tpF a a5 := tpF_t (tpF_t f1 f4) f5
        have gB : mnF b b3 := mnF_t g2 g3
        refine ⟨a5, 0, _, s0, m0, rcF_p fA, rmF_t (rmF_p gB) ⟨fun c k i z => rdI (by omega), fun _ _ _ => rfl⟩, fA.1 9 2 0 (by decide), by rw [rdI (by decide)]; exact gB.1 12 14 0 (by omega), by show b3.2.2.2.1 52 0 0 = _; rw [gB.2]; rfl, Or.inr ⟨rfl, p5, by rw [e5, w4, rdI_s], by rw [e5]; exact nz⟩⟩
      · have nC : ¬ (a1.1 7 7 0 = 2 ∧ a1.1 7 8 0 = nI v1) := fun z => C (by rw [hv3]; exact ((c_same t1 (by omega)).mp z).2.2)
        have s1 : f_TrugReader_readUnder a = f_TrugReader_readUnder_b45 (nI v1) a1 := by
          rw [s0]
          by_cases k7 : a1.1 7 7 0 = 2
          · rw [if_pos k7, if_neg (fun z => nC ⟨k7, z⟩)]
          · rw [if_neg k7]
        have hs0 : f_Told_hasSorrow 5 (nI v1) a3 = some 1 := by
          show (if nI v1 < 0 then some 0 else if a3.1 8 3 5 ≤ nI v1 then some 0 else if (8 : Int32) ≤ nI v1 then some 0 else some 1) = _
          rw [f3.1 8 3 5 (by decide), e83, if_neg (nI_pos (by omega)), if_neg (nI_ge l1 (by omega)), if_neg (show ¬ (8 : Int32) ≤ nI v1 from nI_ge (b := 8) (by omega) (by decide))]
        have x8 : xib (nI v1) 8 := xibN (by omega) (by decide)
        rw [sb, e83, ea3, Option.bind_some, c_well, Option.bind_some, if_pos z4, if_neg i1, hs0, Option.bind_some, if_neg i1, if_pos x8, if_pos x8, nI_clamp (by omega), z1] at s1
        have x80 : xib (nI (72 + v1)) 80 := xibN (by omega) (by decide)
        rw [if_neg (fun z => C ((nI_eq (by omega) (by omega)).mp z).symm), show (72 : Int32) + nI v1 = nI (72 + v1) from nI_add 72 v1, if_pos x80, if_pos x80, nI_clamp (by omega)] at m0
        have hd3 : dD a3 b3 n m := dD_p f3 g3 hd2
        obtain ⟨h1, h2, h3, h4, h5, h6, h7, h8, h9, h10, h11, h12, h13, h14, h15⟩ := hd3
        obtain ⟨u1, z, u2, u3⟩ := h13 v1 (by omega)
        have z8 : z < 256 := Nat.lt_of_lt_of_le u2 (Nat.pow_le_pow_right (n := 2) (by decide) n8)
        have o8 : 2 ^ v3 < 256 := Nat.pow_lt_pow_right (a := 2) (n := 8) (by decide) (by omega)
        have w0 : nI z ||| ((1 : Int32) <<< (nI v3 &&& 31)) = nI (z ||| 2 ^ v3) := by rw [sb_pow v3 (by omega), sb_or z z8 _ o8]
        have w1 : a3.2.2.2.1 40 5 v1 ||| ((1 : Int32) <<< (nI v3 &&& 31)) = nI (z ||| 2 ^ v3) := by rw [u1, u3, w0]
        have w2 : b3.2.2.2.1 52 0 (72 + v1) ||| ((1 : Int32) <<< (nI v3 &&& 31)) = nI (z ||| 2 ^ v3) := by rw [show b3.2.2.2.1 52 0 (72 + v1) = nI z from u3, w0]
        rw [w1] at s1
        rw [w2] at m0
        obtain ⟨a4, ea4⟩ : ∃ a4, a4 = xsA a3 40 5 (upd (a3.2.2.2.1 40 5) v1 (nI (z ||| 2 ^ v3))) := ⟨_, rfl⟩
        obtain ⟨b4, eb4⟩ : ∃ b4, b4 = xsA b3 52 0 (upd (b3.2.2.2.1 52 0) (72 + v1) (nI (z ||| 2 ^ v3))) := ⟨_, rfl⟩
        rw [← ea4] at s1
        rw [← eb4] at m0
        have fA : tpF a a3 := tpF_t f1 f3
        have gB : mnF b b3 := mnF_t g2 g3
        have rr : ∀ k, k ≠ 72 + v1 → rd b4 k = rd b3 k := fun k hk => by show b4.2.2.2.1 52 0 k = _; rw [eb4, rdA_s, pk_un hk]; rfl
        have aA : ∀ f i, ¬ (f = 40 ∧ i = 5) → a4.2.2.2.1 f i = a3.2.2.2.1 f i := fun f i z => by rw [ea4, rdA_n z]
        have aI : a4.1 = a3.1 := by rw [ea4]; rfl
        refine ⟨a4, 1, b4, s1, m0, rcF_t (rcF_p fA) ⟨fun c k i _ _ _ => by rw [aI], fun f i p' q' => aA f i (by omega)⟩, rmF_t (rmF_p gB) ⟨fun c k i _ => by rw [eb4]; rfl, fun f i p' => by rw [eb4, rdA_n p']⟩, by rw [aI]; exact fA.1 9 2 0 (by decide), by rw [eb4]; exact gB.1 12 14 0 (by omega), by rw [rr 0 (by omega)]; show b3.2.2.2.1 52 0 0 = _; rw [gB.2]; rfl, Or.inl ⟨rfl, by rw [aI]; exact z4, by rw [eb4]; exact z5, nxB B t p2, n, m, ?_, ?_⟩⟩
        · rw [eb4]
          exact sy_A (by decide) ⟨tR_of (fun k => by rw [aI]) (fun f p1 p2 => aA f 0 (by omega)) z3.1, z3.2⟩
        · refine ⟨by rw [aI]; exact h1, by rw [aI]; exact h2, by rw [rr 3 (by omega)]; exact h3, h4, by rw [aI]; exact h5, by rw [rr 4 (by omega)]; exact h6, h7, by rw [aI, rr 1 (by omega)]; exact h8, by rw [aI, rr 2 (by omega)]; exact h9, by rw [rr 1 (by omega)]; exact h10, by rw [rr 2 (by omega)]; exact h11, fun k hk => ?_, fun k hk => ?_, fun k hk => ?_, fun k p1 p2 => by rw [aA 41 5 (by decide)]; exact h15 k p1 p2⟩
          · rw [aA 37 5 (by decide), aA 38 5 (by decide), aA 39 5 (by decide), rr (64 + k) (by omega), rr (44 + k) (by omega), rr (52 + k) (by omega)]
            exact h12 k hk
          · by_cases c : k = v1
            · subst c
              have e1 : a4.2.2.2.1 40 5 k = nI (z ||| 2 ^ v3) := by rw [ea4, rdA_s, pk_us]
              have e2 : rd b4 (72 + k) = nI (z ||| 2 ^ v3) := by show b4.2.2.2.1 52 0 (72 + k) = _; rw [eb4, rdA_s, pk_us]
              rw [e1, e2]
              exact ⟨rfl, _, Nat.or_lt_two_pow u2 (Nat.pow_lt_pow_right (by decide) l3), rfl⟩
            · have e1 : a4.2.2.2.1 40 5 k = a3.2.2.2.1 40 5 k := by rw [ea4, rdA_s, pk_un c]
              rw [e1, rr (72 + k) (by omega)]
              exact h13 k hk
          · rw [aA 41 5 (by decide), rr (60 + k) (by omega)]
            exact h14 k hk
    · have fk3 := n3 G3
      rw [ind_f G3, if_pos rfl] at m0
      have nC : ¬ (a1.1 7 7 0 = 2 ∧ a1.1 7 8 0 = nI v1) := fun z => by
        obtain ⟨w1, w2, w3⟩ := (c_same t1 (by omega)).mp z
        refine G3 ⟨w1, w2, ?_⟩
        rw [w3, hv1]
        exact G1.2.2
      have s1 : f_TrugReader_readUnder a = f_TrugReader_readUnder_b45 (nI v1) a1 := by
        rw [s0]
        by_cases k7 : a1.1 7 7 0 = 2
        · rw [if_pos k7, if_neg (fun z => nC ⟨k7, z⟩)]
        · rw [if_neg k7]
      rw [sb, e83, ea3, Option.bind_some, c_well, Option.bind_some, if_neg fk3.2.2, if_pos rfl] at s1
      have fA : tpF a a3 := tpF_t f1 f3
      have gB : mnF b b3 := mnF_t g2 g3
      exact ⟨a3, 0, b3, s1, m0, rcF_p fA, rmF_p gB, fA.1 9 2 0 (by decide), gB.1 12 14 0 (by omega), by show b3.2.2.2.1 52 0 0 = _; rw [gB.2]; rfl, Or.inr ⟨rfl, fk3⟩⟩
  · have fk1 := n1 G1
    rw [ind_f G1, if_pos rfl] at m0
    obtain ⟨p1, t1⟩ := fk1.1
    have s1 : ∃ a4, f_TrugReader_readUnder a = some a4 ∧ tpF a1 a4 ∧ (∃ p', tR a4 t B p') ∧ a4.1 7 9 0 = a1.1 7 9 0 := by
      rw [s0]
      by_cases k7 : a1.1 7 7 0 = 2
      · rw [if_pos k7]
        by_cases k8 : a1.1 7 8 0 = r1
        · obtain ⟨a4, ea4, t4, f4, w4, _, _⟩ := c_failT (w := 1) t1
          rw [if_neg fk1.2.2] at w4
          obtain ⟨a5, ea5, f5, p5, e5⟩ := vain r1 a4 p1 t4 (by rw [w4]; exact fk1.2.2)
          rw [if_pos k8, show (1 : Int32) = nI 1 from rfl, ea4, Option.bind_some]
          exact ⟨a5, ea5, tpF_t f4 f5, p5, e5.trans w4⟩
        · rw [if_neg k8]
          exact vain r1 a1 p1 t1 fk1.2.2
      · rw [if_neg k7]
        exact vain r1 a1 p1 t1 fk1.2.2
    obtain ⟨a4, ea4, f4, p4, e4⟩ := s1
    have fA : tpF a a4 := tpF_t f1 f4
    exact ⟨a4, 0, b1, ea4, m0, rcF_p fA, rmF_p g1, fA.1 9 2 0 (by decide), g1.1 12 14 0 (by omega), by show b1.2.2.2.1 52 0 0 = _; rw [g1.2]; rfl, Or.inr ⟨rfl, fk_v fk1 p4 e4⟩⟩
