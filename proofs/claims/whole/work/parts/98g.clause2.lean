/-! PURE: clauses of a trug: sorrow, under, carrier -/
theorem ub {v H : Nat} {lo : Int32} (h : ¬ (nI v < lo ∨ nI H < nI v)) (hv : v < 100000) : v ≤ H := Nat.le_of_not_lt (fun z => h (Or.inr (nI_lt z (by omega))))
theorem lb1 {v : Nat} {hi : Int32} (h : ¬ (nI v < 1 ∨ hi < nI v)) (hv : v < 100000) : 1 ≤ v := Nat.le_of_not_lt (fun z => h (Or.inl (nI_lt (b := 1) z (by omega))))
theorem i1 : (1 : Int32) ≠ 0 := by decide
theorem lk_carrier {a b : xH} {t p n m : Nat} {B : Nat → Nat} (hs : sy a b t B p) (fa : a.1 7 9 0 = 0) (fb : b.1 12 9 0 = 0) (hd : dD a b n m) (m4 : m < 4) : ∃ a' r b', f_TrugReader_readCarrier a = some a' ∧ ((f_M_cellHere (60 + rd b 4) 1 60 b).bind (fun q11 => if q11.1 = 0 then some (0, q11.2) else some (1, xsA q11.2 52 0 (upd (q11.2.2.2.2.1 52 0) 4 (rd q11.2 4 + 1))))) = some (r, b') ∧ rcF a a' ∧ rmF b b' ∧ a'.1 9 2 0 = a.1 9 2 0 ∧ b'.1 12 14 0 = b.1 12 14 0 ∧ rd b' 0 = rd b 0 ∧ oc a' b' t B r := by
  obtain ⟨r1, a1, b1, ea1, eb1, f1, g1, y1, n1⟩ := lk_num hs fa fb 1 60 (by decide)
  have hd1 := dD_p f1 g1 hd
  obtain ⟨h1, h2, h3, h4, h5, h6, h7, h8, h9, h10, h11, h12, h13, h14, h15⟩ := id hd1
  have r4 : rd b 4 = nI m := hd.2.2.2.2.2.1
  have c1 := m_cell (c := 60 + m) eb1 (by omega) (show (60 : Int32) + rd b 4 = nI (60 + m) by rw [r4]; exact nI_add 60 m)
  have s0 : f_TrugReader_readCarrier a = (f_TrugReader_readNumber 1 60 a).bind (fun q3 => (f_Tape_isWell q3.2).bind (fun r4 => if r4 = 0 then some q3.2 else if q3.2.1 8 4 5 < 0 then some q3.2 else if (4 : Int32) ≤ q3.2.1 8 4 5 then some q3.2 else if xib (q3.2.1 8 4 5) 4 then some (xsI (xsA q3.2 41 5 (upd (q3.2.2.2.2.1 41 5) (q3.2.1 8 4 5).toNatClampNeg q3.1)) 8 4 5 (q3.2.1 8 4 5 + 1)) else none)) := rfl
  rw [ea1, Option.bind_some, c_well, Option.bind_some] at s0
  by_cases G1 : numG B t p 1 60
  · obtain ⟨x1, x2, x3, x4, x5⟩ := y1 G1
    have l1 := nvB_lt G1.2.1
    have u1 : nvB B t p ≤ 60 := ub (H := 60) G1.2.2 l1
    have u0 := lb1 G1.2.2 l1
    rw [if_pos x4, if_neg i1, h5, if_neg (nI_pos (by omega)), if_neg (show ¬ (4 : Int32) ≤ nI m from nI_ge (b := 4) m4 (by decide)), if_pos (xibN m4 (by decide)), nI_clamp (by omega), nI_1] at s0
    obtain ⟨a2, ea2⟩ : ∃ a2, a2 = xsI (xsA a1 41 5 (upd (a1.2.2.2.1 41 5) m r1)) 8 4 5 (nI (m + 1)) := ⟨_, rfl⟩
    obtain ⟨b2, eb2⟩ : ∃ b2, b2 = xsA b1 52 0 (upd (b1.2.2.2.1 52 0) (60 + m) (b1.1 12 10 0)) := ⟨_, rfl⟩
    obtain ⟨b3, eb3⟩ : ∃ b3, b3 = xsA b2 52 0 (upd (b2.2.2.2.1 52 0) 4 (rd b2 4 + 1)) := ⟨_, rfl⟩
    rw [← ea2] at s0
    rw [ind_t G1, if_neg i1, ← eb2] at c1
    have r24 : rd b2 4 = nI m := by show b2.2.2.2.1 52 0 4 = _; rw [eb2, rdA_s, pk_un (by omega)]; exact h6
    have rr : ∀ k, k ≠ 4 → k ≠ 60 + m → rd b3 k = rd b1 k := fun k k1 k2 => by show b3.2.2.2.1 52 0 k = _; rw [eb3, rdA_s, pk_un k1, eb2, rdA_s, pk_un k2]; rfl
    have rr4 : rd b3 4 = nI (m + 1) := by show b3.2.2.2.1 52 0 4 = _; rw [eb3, rdA_s, pk_us, r24, nI_1]
    have rrm : rd b3 (60 + m) = nI (nvB B t p) := by show b3.2.2.2.1 52 0 (60 + m) = _; rw [eb3, rdA_s, pk_un (by omega), eb2, rdA_s, pk_us, x2]
    have aI : ∀ k, k ≠ 4 → a2.1 8 k 5 = a1.1 8 k 5 := fun k k1 => by rw [ea2, rdI (by omega)]; rfl
    have aA : ∀ f i, ¬ (f = 41 ∧ i = 5) → a2.2.2.2.1 f i = a1.2.2.2.1 f i := fun f i z => by rw [ea2]; show (xsA a1 41 5 _).2.2.2.1 f i = _; rw [rdA_n z]
    have a41 : a2.2.2.2.1 41 5 = upd (a1.2.2.2.1 41 5) m r1 := by rw [ea2]; show (xsA a1 41 5 _).2.2.2.1 41 5 = _; rw [rdA_s]
    refine ⟨a2, 1, b3, s0, by rw [c1, Option.bind_some, if_neg i1, eb3], rcF_t (rcF_p f1) ⟨fun c k i p' q' r' => by rw [ea2, rdI_3 (by omega)]; rfl, fun f i p' q' => aA f i (by omega)⟩, rmF_t (rmF_p g1) ⟨fun c k i _ => by rw [eb3, eb2]; rfl, fun f i p' => by rw [eb3, rdA_n p', eb2, rdA_n p']⟩, by rw [ea2, rdI (by decide)]; exact f1.1 9 2 0 (by decide), by rw [eb3, eb2]; exact g1.1 12 14 0 (by omega), by rw [rr 0 (by decide) (by omega)]; show b1.2.2.2.1 52 0 0 = _; rw [g1.2]; rfl, Or.inl ⟨rfl, by rw [ea2, rdI (by decide)]; exact x4, by rw [eb3, eb2]; exact x5, nxB B t p, n, m + 1, ?_, ?_⟩⟩
    · rw [eb3, eb2]
      refine sy_A (by decide) (sy_A (by decide) ⟨?_, x3.2⟩)
      exact tR_of (fun k => by rw [ea2, rdI (by omega)]; rfl) (fun f p1 p2 => aA f 0 (by omega)) x3.1
    · refine ⟨by rw [aI 0 (by decide)]; exact h1, by rw [aI 3 (by decide)]; exact h2, by rw [rr 3 (by decide) (by omega)]; exact h3, h4, by rw [ea2, rdI_s], rr4, by omega, by rw [aI 1 (by decide), rr 1 (by decide) (by omega)]; exact h8, by rw [aI 2 (by decide), rr 2 (by decide) (by omega)]; exact h9, by rw [rr 1 (by decide) (by omega)]; exact h10, by rw [rr 2 (by decide) (by omega)]; exact h11, fun k hk => ?_, fun k hk => ?_, fun k hk => ?_, fun k p1 p2 => ?_⟩
      · rw [aA 37 5 (by decide), aA 38 5 (by decide), aA 39 5 (by decide), rr (64 + k) (by omega) (by omega), rr (44 + k) (by omega) (by omega), rr (52 + k) (by omega) (by omega)]
        exact h12 k hk
      · rw [aA 40 5 (by decide), rr (72 + k) (by omega) (by omega)]
        exact h13 k hk
      · rw [a41]
        by_cases z : k = m
        · subst z
          rw [pk_us, rrm, x1]
          exact ⟨rfl, _, u0, u1, rfl⟩
        · rw [pk_un z, rr (60 + k) (by omega) (by omega)]
          exact h14 k (by omega)
      · rw [a41, pk_un (by omega)]
        exact h15 k (by omega) p2
  · have fk1 := n1 G1
    rw [if_neg fk1.2.2, if_pos rfl] at s0
    rw [ind_f G1, if_pos rfl] at c1
    exact ⟨a1, 0, b1, s0, by rw [c1, Option.bind_some, if_pos rfl], rcF_p f1, rmF_p g1, f1.1 9 2 0 (by decide), g1.1 12 14 0 (by omega), by show b1.2.2.2.1 52 0 0 = _; rw [g1.2]; rfl, Or.inr ⟨rfl, fk1⟩⟩
theorem lk_sorrow {a b : xH} {t p n m : Nat} {B : Nat → Nat} (hs : sy a b t B p) (fa : a.1 7 9 0 = 0) (fb : b.1 12 9 0 = 0) (hd : dD a b n m) (n8 : n < 8) : ∃ a' r b', f_TrugReader_readSorrow a = some a' ∧ ((f_M_cellHere (64 + rd b 3) 1 20 b).bind (fun q12 => if q12.1 = 0 then some (0, q12.2) else (f_M_cellHere (44 + rd b 3) 1 40 q12.2).bind (fun q16 => if q16.1 = 0 then some (0, q16.2) else (f_M_cellHere (52 + rd b 3) 0 30 q16.2).bind (fun q20 => if q20.1 = 0 then some (0, q20.2) else some (1, xsA q20.2 52 0 (upd (q20.2.2.2.2.1 52 0) 3 (rd q20.2 3 + 1))))))) = some (r, b') ∧ rcF a a' ∧ rmF b b' ∧ a'.1 9 2 0 = a.1 9 2 0 ∧ b'.1 12 14 0 = b.1 12 14 0 ∧ rd b' 0 = rd b 0 ∧ oc a' b' t B r := by
  have r3 : rd b 3 = nI n := hd.2.2.1
  have s0 : f_TrugReader_readSorrow a = (f_TrugReader_readNumber 1 20 a).bind (fun q3 => (f_TrugReader_readNumber 1 40 q3.2).bind (fun q6 => (f_TrugReader_readNumber 0 30 q6.2).bind (fun q9 => (f_Tape_isWell q9.2).bind (fun r10 => if r10 = 0 then some q9.2 else if q9.2.1 8 3 5 < 0 then some q9.2 else if (8 : Int32) ≤ q9.2.1 8 3 5 then some q9.2 else if xib (q9.2.1 8 3 5) 8 then (if xib (q9.2.1 8 3 5) 8 then (if xib (q9.2.1 8 3 5) 8 then some (xsI (xsA (xsA (xsA q9.2 37 5 (upd (q9.2.2.2.2.1 37 5) (q9.2.1 8 3 5).toNatClampNeg q3.1)) 38 5 (upd ((xsA q9.2 37 5 (upd (q9.2.2.2.2.1 37 5) (q9.2.1 8 3 5).toNatClampNeg q3.1)).2.2.2.1 38 5) (q9.2.1 8 3 5).toNatClampNeg q6.1)) 39 5 (upd ((xsA (xsA q9.2 37 5 (upd (q9.2.2.2.2.1 37 5) (q9.2.1 8 3 5).toNatClampNeg q3.1)) 38 5 (upd ((xsA q9.2 37 5 (upd (q9.2.2.2.2.1 37 5) (q9.2.1 8 3 5).toNatClampNeg q3.1)).2.2.2.1 38 5) (q9.2.1 8 3 5).toNatClampNeg q6.1)).2.2.2.1 39 5) (q9.2.1 8 3 5).toNatClampNeg q9.1)) 8 3 5 (q9.2.1 8 3 5 + 1)) else none) else none) else none)))) := rfl
  obtain ⟨r1, a1, b1, ea1, eb1, f1, g1, y1, n1⟩ := lk_num hs fa fb 1 20 (by decide)
  have c1 := m_cell (c := 64 + n) eb1 (by omega) (show (64 : Int32) + rd b 3 = nI (64 + n) by rw [r3]; exact nI_add 64 n)
  rw [ea1, Option.bind_some] at s0
  by_cases G1 : numG B t p 1 20
  · obtain ⟨x1, x2, x3, x4, x5⟩ := y1 G1
    obtain ⟨b2, eb2⟩ : ∃ b2, b2 = xsA b1 52 0 (upd (b1.2.2.2.1 52 0) (64 + n) (b1.1 12 10 0)) := ⟨_, rfl⟩
    rw [ind_t G1, if_neg i1, ← eb2] at c1
    have s2 : sy a1 b2 t B (nxB B t p) := by rw [eb2]; exact sy_A (by decide) x3
    obtain ⟨p2, hp2⟩ : ∃ p2, p2 = nxB B t p := ⟨_, rfl⟩
    rw [← hp2] at s2
    obtain ⟨r3', a3, b3, ea3, eb3, f3, g3, y3, n3⟩ := lk_num s2 x4 (by rw [eb2]; exact x5) 1 40 (by decide)
    have c3 := m_cell (c := 44 + n) eb3 (by omega) (show (44 : Int32) + rd b 3 = nI (44 + n) by rw [r3]; exact nI_add 44 n)
    rw [ea3, Option.bind_some] at s0
    by_cases G3 : numG B t p2 1 40
    · obtain ⟨z1, z2, z3, z4, z5⟩ := y3 G3
      obtain ⟨b4, eb4⟩ : ∃ b4, b4 = xsA b3 52 0 (upd (b3.2.2.2.1 52 0) (44 + n) (b3.1 12 10 0)) := ⟨_, rfl⟩
      rw [ind_t G3, if_neg i1, ← eb4] at c3
      have s4 : sy a3 b4 t B (nxB B t p2) := by rw [eb4]; exact sy_A (by decide) z3
      obtain ⟨p4, hp4⟩ : ∃ p4, p4 = nxB B t p2 := ⟨_, rfl⟩
      rw [← hp4] at s4
      obtain ⟨r5, a5, b5, ea5, eb5, f5, g5, y5, n5⟩ := lk_num s4 z4 (by rw [eb4]; exact z5) 0 30 (by decide)
      have c5 := m_cell (c := 52 + n) eb5 (by omega) (show (52 : Int32) + rd b 3 = nI (52 + n) by rw [r3]; exact nI_add 52 n)
      rw [ea5, Option.bind_some, c_well, Option.bind_some] at s0
      have fA : tpF a a5 := tpF_t (tpF_t f1 f3) f5
      have gB5 : ∀ c k i, ¬ (c = 12 ∧ 8 ≤ k ∧ k ≤ 10) → b5.1 c k i = b.1 c k i := fun c k i z => by rw [g5.1 c k i z, eb4]; show b3.1 c k i = _; rw [g3.1 c k i z, eb2]; exact g1.1 c k i z
      have gA5 : ∀ f i, ¬ (f = 52 ∧ i = 0) → b5.2.2.2.1 f i = b.2.2.2.1 f i := fun f i z => by rw [g5.2, eb4, rdA_n z, g3.2, eb2, rdA_n z, g1.2]
      have r52 : b5.2.2.2.1 52 0 = upd (upd (b.2.2.2.1 52 0) (64 + n) (nI (nvB B t p))) (44 + n) (nI (nvB B t p2)) := by
        rw [g5.2, eb4, rdA_s, g3.2, eb2, rdA_s, x2, z2, g1.2]
      by_cases G5 : numG B t p4 0 30
      · obtain ⟨w1, w2, w3, w4, w5⟩ := y5 G5
        have hd5 : dD a5 b n m := dD_of (b := b) (fun k _ => fA.1 8 k 5 (by omega)) (fun f h1 h2 => fA.2 f 5 (by omega)) (fun _ _ => rfl) hd
        obtain ⟨h1, h2, h3, h4, h5, h6, h7, h8, h9, h10, h11, h12, h13, h14, h15⟩ := id hd5
        have l1 := nvB_lt G1.2.1
        have l3 := nvB_lt G3.2.1
        have l5 := nvB_lt G5.2.1
        have u1 : nvB B t p ≤ 20 := ub (H := 20) G1.2.2 l1
        have u1' := lb1 G1.2.2 l1
        have u3 : nvB B t p2 ≤ 40 := ub (H := 40) G3.2.2 l3
        have u3' := lb1 G3.2.2 l3
        have u5 : nvB B t p4 ≤ 30 := ub (H := 30) G5.2.2 l5
        have xn : xib (nI n) 8 := xibN n8 (by decide)
        rw [if_pos w4, if_neg i1, h2, if_neg (nI_pos (by omega)), if_neg (show ¬ (8 : Int32) ≤ nI n from nI_ge (b := 8) n8 (by decide)), if_pos xn, if_pos xn, if_pos xn, nI_clamp (by omega), nI_1] at s0
        have q38 : (xsA a5 37 5 (upd (a5.2.2.2.1 37 5) n r1)).2.2.2.1 38 5 = a5.2.2.2.1 38 5 := rdA_n (by decide)
        rw [q38] at s0
        have q39 : (xsA (xsA a5 37 5 (upd (a5.2.2.2.1 37 5) n r1)) 38 5 (upd (a5.2.2.2.1 38 5) n r3')).2.2.2.1 39 5 = a5.2.2.2.1 39 5 := by rw [rdA_n (by decide), rdA_n (by decide)]
        rw [q39] at s0
        obtain ⟨a6, ea6⟩ : ∃ a6, a6 = xsI (xsA (xsA (xsA a5 37 5 (upd (a5.2.2.2.1 37 5) n r1)) 38 5 (upd (a5.2.2.2.1 38 5) n r3')) 39 5 (upd (a5.2.2.2.1 39 5) n r5)) 8 3 5 (nI (n + 1)) := ⟨_, rfl⟩
        rw [← ea6] at s0
        obtain ⟨b6, eb6⟩ : ∃ b6, b6 = xsA b5 52 0 (upd (b5.2.2.2.1 52 0) (52 + n) (b5.1 12 10 0)) := ⟨_, rfl⟩
        obtain ⟨b7, eb7⟩ : ∃ b7, b7 = xsA b6 52 0 (upd (b6.2.2.2.1 52 0) 3 (rd b6 3 + 1)) := ⟨_, rfl⟩
        rw [ind_t G5, if_neg i1, ← eb6] at c5
        have r63 : rd b6 3 = nI n := by show b6.2.2.2.1 52 0 3 = _; rw [eb6, rdA_s, pk_un (by omega), r52, pk_un (by omega), pk_un (by omega)]; exact r3
        have r72 : b7.2.2.2.1 52 0 = upd (upd (upd (upd (b.2.2.2.1 52 0) (64 + n) (nI (nvB B t p))) (44 + n) (nI (nvB B t p2))) (52 + n) (nI (nvB B t p4))) 3 (nI (n + 1)) := by
          rw [eb7, rdA_s, r63, eb6, rdA_s, r52, w2, nI_1]
        have rr : ∀ k, k ≠ 3 → k ≠ 52 + n → k ≠ 44 + n → k ≠ 64 + n → rd b7 k = rd b k := fun k k1 k2 k3 k4 => by show b7.2.2.2.1 52 0 k = _; rw [r72, pk_un k1, pk_un k2, pk_un k3, pk_un k4]; rfl
        have aI : ∀ k, k ≠ 3 → a6.1 8 k 5 = a5.1 8 k 5 := fun k k1 => by rw [ea6, rdI (by omega)]; rfl
        have aA : ∀ f i, ¬ (i = 5 ∧ 37 ≤ f ∧ f ≤ 39) → a6.2.2.2.1 f i = a5.2.2.2.1 f i := fun f i z => by rw [ea6]; show (xsA (xsA (xsA a5 37 5 _) 38 5 _) 39 5 _).2.2.2.1 f i = _; rw [rdA_n (by omega), rdA_n (by omega), rdA_n (by omega)]
        have a37 : a6.2.2.2.1 37 5 = upd (a5.2.2.2.1 37 5) n r1 := by rw [ea6]; show (xsA (xsA (xsA a5 37 5 _) 38 5 _) 39 5 _).2.2.2.1 37 5 = _; rw [rdA_n (by decide), rdA_n (by decide), rdA_s]
        have a38 : a6.2.2.2.1 38 5 = upd (a5.2.2.2.1 38 5) n r3' := by rw [ea6]; show (xsA (xsA (xsA a5 37 5 _) 38 5 _) 39 5 _).2.2.2.1 38 5 = _; rw [rdA_n (by decide), rdA_s]
        have a39 : a6.2.2.2.1 39 5 = upd (a5.2.2.2.1 39 5) n r5 := by rw [ea6]; show (xsA (xsA (xsA a5 37 5 _) 38 5 _) 39 5 _).2.2.2.1 39 5 = _; rw [rdA_s]
        refine ⟨a6, 1, b7, s0, by rw [c1, Option.bind_some, if_neg i1, c3, Option.bind_some, if_neg i1, c5, Option.bind_some, if_neg i1, eb7], rcF_t (rcF_p fA) ⟨fun c k i p' q' r' => by rw [ea6, rdI_3 (by omega)]; rfl, fun f i p' q' => aA f i (by omega)⟩, ⟨fun c k i z => by rw [eb7, eb6]; exact gB5 c k i (by omega), fun f i z => by rw [eb7, rdA_n z, eb6, rdA_n z]; exact gA5 f i z⟩, by rw [ea6, rdI (by decide)]; exact fA.1 9 2 0 (by decide), by rw [eb7, eb6]; exact gB5 12 14 0 (by omega), rr 0 (by decide) (by omega) (by omega) (by omega), Or.inl ⟨rfl, by rw [ea6, rdI (by decide)]; exact w4, by rw [eb7, eb6]; exact w5, nxB B t p4, n + 1, m, ?_, ?_⟩⟩
        · rw [eb7, eb6]
          refine sy_A (by decide) (sy_A (by decide) ⟨?_, w3.2⟩)
          exact tR_of (fun k => by rw [ea6, rdI (by omega)]; rfl) (fun f p1 p2 => aA f 0 (by omega)) w3.1
        · refine ⟨by rw [aI 0 (by decide)]; exact h1, by rw [ea6, rdI_s], by show b7.2.2.2.1 52 0 3 = _; rw [r72, pk_us], by omega, by rw [aI 4 (by decide)]; exact h5, by rw [rr 4 (by decide) (by omega) (by omega) (by omega)]; exact h6, h7, by rw [aI 1 (by decide), rr 1 (by decide) (by omega) (by omega) (by omega)]; exact h8, by rw [aI 2 (by decide), rr 2 (by decide) (by omega) (by omega) (by omega)]; exact h9, by rw [rr 1 (by decide) (by omega) (by omega) (by omega)]; exact h10, by rw [rr 2 (by decide) (by omega) (by omega) (by omega)]; exact h11, fun k hk => ?_, fun k hk => ?_, fun k hk => ?_, fun k p1 p2 => by rw [aA 41 5 (by decide)]; exact h15 k p1 p2⟩
          · rw [a37, a38, a39]
            by_cases z : k = n
            · subst z
              have v64 : rd b7 (64 + k) = nI (nvB B t p) := by show b7.2.2.2.1 52 0 (64 + k) = _; rw [r72, pk_un (by omega), pk_un (by omega), pk_un (by omega), pk_us]
              have v44 : rd b7 (44 + k) = nI (nvB B t p2) := by show b7.2.2.2.1 52 0 (44 + k) = _; rw [r72, pk_un (by omega), pk_un (by omega), pk_us]
              have v52 : rd b7 (52 + k) = nI (nvB B t p4) := by show b7.2.2.2.1 52 0 (52 + k) = _; rw [r72, pk_un (by omega), pk_us]
              rw [pk_us, pk_us, pk_us, v64, v44, v52, x1, z1, w1]
              exact ⟨rfl, rfl, rfl, ⟨_, u1', u1, rfl⟩, ⟨_, u3', u3, rfl⟩, ⟨_, u5, rfl⟩⟩
            · rw [pk_un z, pk_un z, pk_un z, rr (64 + k) (by omega) (by omega) (by omega) (by omega), rr (44 + k) (by omega) (by omega) (by omega) (by omega), rr (52 + k) (by omega) (by omega) (by omega) (by omega)]
              exact h12 k (by omega)
          · rw [aA 40 5 (by decide), rr (72 + k) (by omega) (by omega) (by omega) (by omega)]
            obtain ⟨y1', z', y2', y3'⟩ := h13 k hk
            exact ⟨y1', z', Nat.lt_of_lt_of_le y2' (Nat.pow_le_pow_right (by decide) (by omega)), y3'⟩
          · rw [aA 41 5 (by decide), rr (60 + k) (by omega) (by omega) (by omega) (by omega)]
            exact h14 k hk
      · have fk5 := n5 G5
        rw [if_neg fk5.2.2, if_pos rfl] at s0
        rw [ind_f G5, if_pos rfl] at c5
        refine ⟨a5, 0, b5, s0, by rw [c1, Option.bind_some, if_neg i1, c3, Option.bind_some, if_neg i1, c5, Option.bind_some, if_pos rfl], rcF_p fA, ⟨fun c k i z => gB5 c k i (by omega), gA5⟩, fA.1 9 2 0 (by decide), gB5 12 14 0 (by omega), by show b5.2.2.2.1 52 0 0 = _; rw [r52, pk_un (by omega), pk_un (by omega)]; rfl, Or.inr ⟨rfl, fk5⟩⟩
    · have fk3 := n3 G3
      obtain ⟨p3, t3⟩ := fk3.1
      obtain ⟨r5, a5, ea5, f5, p5, e5⟩ := c_vain t3 fk3.2.2 0 30 (by decide)
      rw [ea5, Option.bind_some, c_well, Option.bind_some, if_neg (show ¬ a5.1 7 9 0 = 0 by rw [e5]; exact fk3.2.2), if_pos rfl] at s0
      rw [ind_f G3, if_pos rfl] at c3
      have fA : tpF a a5 := tpF_t (tpF_t f1 f3) f5
      refine ⟨a5, 0, b3, s0, by rw [c1, Option.bind_some, if_neg i1, c3, Option.bind_some, if_pos rfl], rcF_p fA, ⟨fun c k i z => by rw [g3.1 c k i (by omega), eb2]; exact g1.1 c k i (by omega), fun f i z => by rw [g3.2, eb2, rdA_n z, g1.2]⟩, fA.1 9 2 0 (by decide), by rw [g3.1 12 14 0 (by omega), eb2]; exact g1.1 12 14 0 (by omega), by show b3.2.2.2.1 52 0 0 = _; rw [g3.2, eb2, rdA_s, pk_un (by omega), g1.2]; rfl, Or.inr ⟨rfl, fk_v fk3 p5 e5⟩⟩
  · have fk1 := n1 G1
    obtain ⟨p1, t1⟩ := fk1.1
    obtain ⟨r3', a3, ea3, f3, ⟨p3, t3⟩, e3⟩ := c_vain t1 fk1.2.2 1 40 (by decide)
    obtain ⟨r5, a5, ea5, f5, p5, e5⟩ := c_vain t3 (by rw [e3]; exact fk1.2.2) 0 30 (by decide)
    rw [ea3, Option.bind_some, ea5, Option.bind_some, c_well, Option.bind_some, if_neg (show ¬ a5.1 7 9 0 = 0 by rw [e5, e3]; exact fk1.2.2), if_pos rfl] at s0
    rw [ind_f G1, if_pos rfl] at c1
    have fA : tpF a a5 := tpF_t (tpF_t f1 f3) f5
    exact ⟨a5, 0, b1, s0, by rw [c1, Option.bind_some, if_pos rfl], rcF_p fA, rmF_p g1, fA.1 9 2 0 (by decide), g1.1 12 14 0 (by omega), by show b1.2.2.2.1 52 0 0 = _; rw [g1.2]; rfl, Or.inr ⟨rfl, fk_v fk1 p5 (e5.trans e3)⟩⟩
