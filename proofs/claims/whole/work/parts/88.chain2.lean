/-! PURE: chains; the class's table -/
theorem sP_cons {q : Nat → Nat} : ∀ k, sP q (k + 1) = sP (fun j => q (j + 1)) k ||| 2 ^ (q 0)
  | 0 => rfl
  | k + 1 => by
    show sP q (k + 1) ||| 2 ^ (q (k + 1)) = (sP (fun j => q (j + 1)) k ||| 2 ^ (q (k + 1))) ||| 2 ^ (q 0)
    rw [sP_cons k, Nat.or_assoc, Nat.or_comm (2 ^ (q 0)), Nat.or_assoc]
theorem or_clr : ∀ B, B < 256 → ∀ i, i < 8 → B.testBit i = false → (B ||| 2 ^ i) - 2 ^ i = B := by decide +kernel
theorem clr_or : ∀ B, B < 256 → ∀ i, i < 8 → B.testBit i = true → ((B - 2 ^ i) ||| 2 ^ i) = B ∧ (B - 2 ^ i).testBit i = false ∧ B - 2 ^ i < B := by decide +kernel
theorem sgl_e : ∀ S, S < 256 → ∀ i, i < 8 → S &&& (S - 1) = 0 → S.testBit i = true → S = 2 ^ i := by decide +kernel
theorem sgl_2 : ∀ i, i < 8 → 2 ^ i &&& (2 ^ i - 1) = 0 := by decide +kernel
/-- a chain of just these can begin with y -/
def bgn (I : Nat) (U : Nat → Nat) (S y : Nat) : Prop := ∃ q m, 0 < m ∧ cP I U q m ∧ sP q m = S ∧ q 0 = y
theorem bgn_in {I S y : Nat} {U : Nat → Nat} (h : bgn I U S y) : S.testBit y = true ∧ I.testBit y = true := by
  obtain ⟨q, m, hm, hc, rfl, rfl⟩ := h
  exact ⟨sP_bit.mpr ⟨0, hm, rfl⟩, hc.1 0 hm⟩
theorem bgn_sub {I S y : Nat} {U : Nat → Nat} (h : bgn I U S y) : S &&& I = S := by
  obtain ⟨q, m, hm, hc, rfl, rfl⟩ := h
  apply Nat.eq_of_testBit_eq
  intro j
  rw [Nat.testBit_and]
  cases hb : (sP q m).testBit j with
  | false => rfl
  | true =>
    obtain ⟨i, hi, e⟩ := sP_bit.mp hb
    rw [← e, hc.1 i hi]
    rfl
theorem bgn_1 {I S y : Nat} {U : Nat → Nat} (hI : I < 256) (hS : S < 256) (h1 : S &&& (S - 1) = 0) (hs : S &&& I = S) (hy : S.testBit y = true) : bgn I U S y := by
  have y8 : y < 8 := bit_hi hS hy
  have iy : I.testBit y = true := by
    rw [← hs, Nat.testBit_and, Bool.and_eq_true] at hy
    exact hy.2
  refine ⟨fun _ => y, 1, by decide, ⟨fun i _ => iy, fun j i hj hi => absurd hi (by omega), fun i hi => absurd hi (by omega)⟩, ?_, rfl⟩
  show 0 ||| 2 ^ y = S
  rw [Nat.zero_or]
  exact (sgl_e S hS y y8 h1 hy).symm
theorem bgn_c {I S i : Nat} {U : Nat → Nat} (hI : I < 256) (hS : S < 256) (h1 : S &&& (S - 1) ≠ 0) : bgn I U S i ↔ S.testBit i = true ∧ I.testBit i = true ∧ ∃ y, bgn I U (S - 2 ^ i) y ∧ (U y).testBit i = true := by
  constructor
  · intro h
    refine ⟨(bgn_in h).1, (bgn_in h).2, ?_⟩
    obtain ⟨q, m, hm, hc, e, rfl⟩ := h
    have i8 : q 0 < 8 := bit_hi hI (hc.1 0 hm)
    have m2 : 1 < m := by
      by_cases z : m = 1
      · subst z
        have : S = 2 ^ q 0 := by
          rw [← e]
          show 0 ||| 2 ^ q 0 = _
          rw [Nat.zero_or]
        exact absurd (by rw [this]; exact sgl_2 _ i8) h1
      · omega
    have e' := sP_cons (q := q) (m - 1)
    rw [show m - 1 + 1 = m by omega, e] at e'
    have nb : (sP (fun j => q (j + 1)) (m - 1)).testBit (q 0) = false := sP_f (fun j hj z => hc.2.1 0 (j + 1) (by omega) (by omega) z.symm)
    have l8 : sP (fun j => q (j + 1)) (m - 1) < 256 := sP_lt (fun j hj => bit_hi hI (hc.1 (j + 1) (by omega)))
    refine ⟨q 1, ⟨fun j => q (j + 1), m - 1, by omega, ⟨fun j hj => hc.1 (j + 1) (by omega), fun j k hj hk => hc.2.1 (j + 1) (k + 1) (by omega) (by omega), fun j hj => hc.2.2 (j + 1) (by omega)⟩, ?_, rfl⟩, hc.2.2 0 m2⟩
    rw [e']
    exact (or_clr _ l8 _ i8 nb).symm
  · rintro ⟨hi, ii, y, ⟨q, m, hm, hc, e, rfl⟩, hu⟩
    have i8 : i < 8 := bit_hi hS hi
    obtain ⟨c1, c2, c3⟩ := clr_or S hS i i8 hi
    have ne : ∀ j, j < m → q j ≠ i := fun j hj z => by
      have : (sP q m).testBit i = true := sP_bit.mpr ⟨j, hj, z⟩
      rw [e, c2] at this
      cases this
    refine ⟨fun j => if j = 0 then i else q (j - 1), m + 1, by omega, ⟨fun j hj => ?_, fun j k hj hk => ?_, fun j hj => ?_⟩, ?_, rfl⟩
    · show I.testBit (if j = 0 then i else q (j - 1)) = true
      by_cases z : j = 0
      · rw [if_pos z]; exact ii
      · rw [if_neg z]; exact hc.1 (j - 1) (by omega)
    · show (if j = 0 then i else q (j - 1)) ≠ (if k = 0 then i else q (k - 1))
      rw [if_neg (show ¬ k = 0 by omega)]
      by_cases z : j = 0
      · rw [if_pos z]; exact fun w => ne (k - 1) (by omega) w.symm
      · rw [if_neg z]; exact hc.2.1 (j - 1) (k - 1) (by omega) (by omega)
    · show (U (if j + 1 = 0 then i else q (j + 1 - 1))).testBit (if j = 0 then i else q (j - 1)) = true
      rw [if_neg (show ¬ j + 1 = 0 by omega)]
      by_cases z : j = 0
      · rw [if_pos z, z]; exact hu
      · rw [if_neg z]
        have := hc.2.2 (j - 1) (by omega)
        rw [show j - 1 + 1 = j by omega] at this
        exact this
    · rw [sP_cons]
      show sP (fun j => if j + 1 = 0 then i else q (j + 1 - 1)) m ||| 2 ^ i = S
      have es : sP (fun j => if j + 1 = 0 then i else q (j + 1 - 1)) m = sP q m := sP_congr (fun j _ => if_neg (by omega))
      rw [es, e]
      exact c1
theorem c_has_b {h : xH} {w : Int32} {k : Nat} : f_Sets_has w (nI k) h = some (if decide ((w >>> (nI k &&& 31)) &&& 1 ≠ 0) = true then 1 else 0) := by
  show (if (w >>> (nI k &&& 31)) &&& 1 = 0 then some 0 else some 1) = _
  by_cases q : (w >>> (nI k &&& 31)) &&& 1 = 0
  · rw [if_pos q, decide_eq_false (fun z => z q), if_neg (by decide)]
  · rw [if_neg q, decide_eq_true q, if_pos rfl]
/-- those that k lies under -/
def luB (A : Nat → Int32) (k y : Nat) : Bool := decide ((A y >>> (nI k &&& 31)) &&& 1 ≠ 0)
theorem c_lying {h : xH} {i1 k : Nat} : f_Sets_lyingUnder (nI k) i1 h = some (nI (bs (luB (h.2.2.2.1 30 i1) k) 8)) := by
  refine whl_cnt (step := fun s : Int32 × Int32 => f_Sets_lyingUnder_s4 i1 (nI k) s.1 s.2 h) 8 (fun j => (nI (bs (luB (h.2.2.2.1 30 i1) k) j), nI j)) _ (fun j hj => ?_) ?_
  · show f_Sets_lyingUnder_s4 i1 (nI k) (nI (bs (luB (h.2.2.2.1 30 i1) k) j)) (nI j) h = some (Sum.inl (nI (bs (luB (h.2.2.2.1 30 i1) k) j + (if luB (h.2.2.2.1 30 i1) k j then 2 ^ j else 0)), nI (j + 1)))
    unfold f_Sets_lyingUnder_s4 f_Sets_lyingUnder_b29
    rw [if_neg (show ¬ (8 : Int32) ≤ nI j from nI_ge (b := 8) hj (by decide)), if_pos (xibN hj (by decide)), nI_clamp (by omega), c_has_b, Option.bind_some, xlet_e, xlet_e, xlet_e, nI_1, sb_or1 j hj _ (bs_lt _ j)]
    show (if (if luB (h.2.2.2.1 30 i1) k j = true then (1 : Int32) else 0) = 0 then _ else _) = _
    rw [sel_e]
    by_cases q : luB (h.2.2.2.1 30 i1) k j = true
    · rw [if_pos q, if_pos q]
    · rw [if_neg q, if_neg q]
      rfl
  · show f_Sets_lyingUnder_s4 i1 (nI k) (nI (bs (luB (h.2.2.2.1 30 i1) k) 8)) (nI 8) h = _
    unfold f_Sets_lyingUnder_s4
    rw [if_pos (by decide)]
/-- what stands for a set of beginners -/
def vbR (I : Nat) (U : Nat → Nat) (S : Nat) (w : Int32) : Prop := ∃ v, v < 256 ∧ w = nI v ∧ ∀ y, v.testBit y = true ↔ bgn I U S y
theorem c_begOf {h : xH} {n I S : Nat} {U : Nat → Nat} (h8 : n ≤ 8) (hI : I < 256) (hIn : ∀ o, I.testBit o = true → o < n) (hU : ∀ k, k < n → h.2.2.2.1 30 0 k = nI (U k) ∧ U k < 256) (hS : S < 256) (h0 : S ≠ 0) (hs : S &&& I = S) (hv : ∀ S', S' < S → S' ≠ 0 → vbR I U S' (h.2.2.2.1 25 0 S')) : ∃ w, f_Sets_beginnersOf (nI S) 0 h = some w ∧ vbR I U S w := by
  have e0 : f_Sets_beginnersOf (nI S) 0 h = (if nI S &&& (nI S - 1) = 0 then some (nI S) else f_Sets_beginnersOf_l15 0 (nI S) 0 0 h) := rfl
  have bt := bt_step S hS h0
  by_cases h1 : S &&& (S - 1) = 0
  · refine ⟨nI S, ?_, S, hS, rfl, fun y => ⟨fun z => bgn_1 hI hS h1 hs z, fun z => (bgn_in z).1⟩⟩
    rw [e0, bt.1, h1, if_pos nI_0]
  · have lt1 := bt.2.2
    rw [e0, bt.1, if_neg (nI_ne0 (by omega) (by omega))]
    have inS : ∀ o, S.testBit o = true → I.testBit o = true := fun o z => by
      rw [← hs, Nat.testBit_and, Bool.and_eq_true] at z
      exact z.2
    obtain ⟨B, hB⟩ : ∃ B : Nat → Bool, B = fun i => @decide (bgn I U S i) (Classical.propDecidable _) := ⟨_, rfl⟩
    have Be : ∀ i, B i = true ↔ bgn I U S i := fun i => by
      rw [hB]
      exact @decide_eq_true_iff _ (Classical.propDecidable _)
    refine ⟨nI (bs B 8), ?_, bs B 8, bs_lt8 _ (Nat.le_refl _), rfl, fun y => ?_⟩
    · refine whl_cnt (step := fun s : Int32 × Int32 => f_Sets_beginnersOf_s15 0 (nI S) s.1 s.2 h) 8 (fun j => (nI (bs B j), nI j)) _ (fun j hj => ?_) ?_
      · show f_Sets_beginnersOf_s15 0 (nI S) (nI (bs B j)) (nI j) h = some (Sum.inl (nI (bs B j + (if B j then 2 ^ j else 0)), nI (j + 1)))
        unfold f_Sets_beginnersOf_s15 f_Sets_beginnersOf_b61
        rw [if_neg (show ¬ (8 : Int32) ≤ nI j from nI_ge (b := 8) hj (by decide)), c_has hS hj, Option.bind_some, xlet_e, xlet_e, nI_1, sel_e]
        by_cases q1 : S.testBit j = true
        · obtain ⟨c1, c2, c3⟩ := clr_or S hS j hj q1
          have nz : S - 2 ^ j ≠ 0 := fun z => by
            rw [z, Nat.zero_or] at c1
            exact h1 (by rw [← c1]; exact sgl_2 j hj)
          obtain ⟨v, hv8, ev, hvb⟩ := hv (S - 2 ^ j) c3 nz
          have eb : (nI v &&& nI (bs (luB (h.2.2.2.1 30 0) j) 8) = 0) ↔ ¬ B j = true := by
            rw [sb_and0 v hv8 _ (bs_lt8 _ (Nat.le_refl _)), Be, bgn_c hI hS h1]
            constructor
            · rintro z ⟨-, -, y, hy, hu⟩
              have y8 := hIn y (bgn_in hy).2
              have hy8 : y < 8 := by omega
              have : (v &&& bs (luB (h.2.2.2.1 30 0) j) 8).testBit y = true := by
                rw [Nat.testBit_and, (hvb y).mpr hy, bs_in hy8]
                show (true && luB (h.2.2.2.1 30 0) j y) = true
                rw [Bool.true_and]
                unfold luB
                rw [(hU y y8).1, sb_of _ (hU y y8).2 j hj, hu]
                decide
              rw [z, Nat.zero_testBit] at this
              cases this
            · intro z
              apply Nat.eq_of_testBit_eq
              intro y
              rw [Nat.zero_testBit]
              cases hb : (v &&& bs (luB (h.2.2.2.1 30 0) j) 8).testBit y with
              | false => rfl
              | true =>
                rw [Nat.testBit_and, Bool.and_eq_true] at hb
                have by1 := (hvb y).mp hb.1
                have y8 := hIn y (bgn_in by1).2
                have hy8 : y < 8 := by omega
                have hu := hb.2
                rw [bs_in hy8] at hu
                unfold luB at hu
                rw [(hU y y8).1, sb_of _ (hU y y8).2 j hj] at hu
                refine absurd ⟨q1, inS j q1, y, by1, ?_⟩ z
                cases hc : (U y).testBit j with
                | true => rfl
                | false =>
                  rw [hc] at hu
                  exact absurd hu (by decide)
          rw [if_pos q1, sb_clr S hS j hj q1, if_pos (xibN (by omega) (by decide)), c_lying, Option.bind_some, nI_clamp (by omega), ev, sb_or1 j hj _ (bs_lt _ j)]
          by_cases q2 : B j = true
          · rw [if_neg (fun z => eb.mp z q2), if_pos q2]
            rfl
          · rw [if_pos (eb.mpr q2), if_neg q2]
            rfl
        · rw [if_neg q1, if_neg (fun z => q1 ((bgn_in ((Be j).mp z)).1))]
          rfl
      · show f_Sets_beginnersOf_s15 0 (nI S) (nI (bs B 8)) (nI 8) h = _
        unfold f_Sets_beginnersOf_s15
        rw [if_pos (by decide)]
    · rw [bs_bit, Bool.and_eq_true, decide_eq_true_iff, Be]
      refine ⟨fun z => z.2, fun z => ⟨?_, z⟩⟩
      exact bit_hi hI (bgn_in z).2
/-- the most and the first of the chains of sets below s -/
def isD (I : Nat) (U T : Nat → Nat) (s M : Nat) (F : Int32) : Prop := (∀ q m, 0 < m → cP I U q m → sP q m < s → rN T q m ≤ M) ∧ ((M = 0 ∧ F = -2) ∨ (0 < M ∧ ∃ q m, 0 < m ∧ cP I U q m ∧ sP q m < s ∧ rN T q m = M ∧ F = nI (q 0) ∧ ∀ q' m', 0 < m' → cP I U q' m' → sP q' m' < s → rN T q' m' = M → q 0 ≤ q' 0))
theorem isD_n {I s M : Nat} {U T : Nat → Nat} {F : Int32} (hn : ∀ y, ¬ bgn I U s y) (h : isD I U T s M F) : isD I U T (s + 1) M F := by
  have lt : ∀ q m, 0 < m → cP I U q m → sP q m < s + 1 → sP q m < s := fun q m hm hc hl => by
    by_cases z : sP q m = s
    · exact absurd ⟨q, m, hm, hc, z, rfl⟩ (hn (q 0))
    · omega
  refine ⟨fun q m hm hc hl => h.1 q m hm hc (lt q m hm hc hl), h.2.imp id (fun ⟨a, q, m, b, c, d, e, f, g⟩ => ⟨a, q, m, b, c, by omega, e, f, fun q' m' hm' hc' hl' => g q' m' hm' hc' (lt q' m' hm' hc' hl')⟩)⟩
theorem isD_v {I s M x M' : Nat} {U T : Nat → Nat} {F F' : Int32} (hI : I < 256) (hx : bgn I U s x) (hl : ∀ y, bgn I U s y → x ≤ y) (hp : 0 < wt T s) (h : isD I U T s M F) (hF : (M < wt T s ∧ M' = wt T s ∧ F' = nI x) ∨ (M = wt T s ∧ M' = M ∧ ((nI x < F ∧ F' = nI x) ∨ (¬ nI x < F ∧ F' = F))) ∨ (wt T s < M ∧ M' = M ∧ F' = F)) : isD I U T (s + 1) M' F' := by
  have at_s : ∀ q m, 0 < m → cP I U q m → sP q m = s → rN T q m = wt T s ∧ x ≤ q 0 := fun q m hm hc e => ⟨by rw [rN_wt (cP_d hI hc), e], hl _ ⟨q, m, hm, hc, e, rfl⟩⟩
  have cs : ∀ q m, sP q m < s + 1 → sP q m < s ∨ sP q m = s := fun q m z => by omega
  obtain ⟨q0, m0, hm0, hc0, e0, ex0⟩ := hx
  have x8 : x < 8 := by
    rw [← ex0]
    exact bit_hi hI (hc0.1 0 hm0)
  obtain ⟨h1, h2⟩ := h
  rcases hF with ⟨a, rfl, rfl⟩ | ⟨a, rfl, b⟩ | ⟨a, rfl, rfl⟩
  · refine ⟨fun q m hm hc hq => ?_, Or.inr ⟨hp, q0, m0, hm0, hc0, by omega, (at_s q0 m0 hm0 hc0 e0).1, by rw [ex0], fun q' m' hm' hc' hq' er => ?_⟩⟩
    · rcases cs q m hq with z | z
      · have := h1 q m hm hc z
        omega
      · rw [(at_s q m hm hc z).1]
        exact Nat.le_refl _
    · rcases cs q' m' hq' with z | z
      · have := h1 q' m' hm' hc' z
        omega
      · rw [ex0]
        exact (at_s q' m' hm' hc' z).2
  · have all : ∀ q m, 0 < m → cP I U q m → sP q m < s + 1 → rN T q m ≤ M' := fun q m hm hc hq => by
      rcases cs q m hq with z | z
      · exact h1 q m hm hc z
      · rw [(at_s q m hm hc z).1, a]
        exact Nat.le_refl _
    rcases h2 with ⟨z1, z2⟩ | ⟨z1, q1, m1, hm1, hc1, hs1, e1, f1, l1⟩
    · omega
    · have q8 : q1 0 < 8 := bit_hi hI (hc1.1 0 hm1)
      rcases b with ⟨b1, b2⟩ | ⟨b1, b2⟩
      · have lt : x < q1 0 := by
          rw [f1] at b1
          exact (nI_ltI (by omega) (by omega)).mp b1
        refine ⟨all, Or.inr ⟨z1, q0, m0, hm0, hc0, by omega, by rw [(at_s q0 m0 hm0 hc0 e0).1, a], by rw [b2, ex0], fun q' m' hm' hc' hq' er => ?_⟩⟩
        rw [ex0]
        rcases cs q' m' hq' with z | z
        · have := l1 q' m' hm' hc' z er
          omega
        · exact (at_s q' m' hm' hc' z).2
      · have ge : q1 0 ≤ x := by
          rw [f1] at b1
          by_cases w : q1 0 ≤ x
          · exact w
          · exact absurd (nI_lt (by omega) (by omega)) b1
        refine ⟨all, Or.inr ⟨z1, q1, m1, hm1, hc1, by omega, e1, by rw [b2, f1], fun q' m' hm' hc' hq' er => ?_⟩⟩
        rcases cs q' m' hq' with z | z
        · exact l1 q' m' hm' hc' z er
        · have := (at_s q' m' hm' hc' z).2
          omega
  · refine ⟨fun q m hm hc hq => ?_, ?_⟩
    · rcases cs q m hq with z | z
      · exact h1 q m hm hc z
      · rw [(at_s q m hm hc z).1]
        omega
    · rcases h2 with ⟨z1, z2⟩ | ⟨z1, q1, m1, hm1, hc1, hs1, e1, f1, l1⟩
      · omega
      · refine Or.inr ⟨z1, q1, m1, hm1, hc1, by omega, e1, f1, fun q' m' hm' hc' hq' er => ?_⟩
        rcases cs q' m' hq' with z | z
        · exact l1 q' m' hm' hc' z er
        · have := (at_s q' m' hm' hc' z).1
          omega
theorem tz_min : ∀ v, v < 256 → v ≠ 0 → v.testBit (tzN v) = true ∧ ∀ y, y < 8 → v.testBit y = true → tzN v ≤ y := by decide +kernel
/-- what the search for chains changes -/
def chS (h h' : xH) : Prop := (∀ c k i, ¬ c = 5 → h'.1 c k i = h.1 c k i) ∧ ∀ f i, ¬ (f = 24 ∧ i = 0) → ¬ (f = 25 ∧ i = 0) → h'.2.2.2.1 f i = h.2.2.2.1 f i
theorem c_keepChain {h : xH} {M t x : Nat} {F : Int32} (hM : M < 2 ^ 30) (ht : t < 2 ^ 30) (e4 : h.1 5 4 0 = nI M) (e5 : h.1 5 5 0 = F) : ∃ h2 M' F', f_Sets_keepChain (nI t) (nI x) h = some h2 ∧ h2.1 5 4 0 = nI M' ∧ h2.1 5 5 0 = F' ∧ M' < 2 ^ 30 ∧ (∀ c k i, ¬ c = 5 → h2.1 c k i = h.1 c k i) ∧ h2.2 = h.2 ∧ ((M < t ∧ M' = t ∧ F' = nI x) ∨ (M = t ∧ M' = M ∧ ((nI x < F ∧ F' = nI x) ∨ (¬ nI x < F ∧ F' = F))) ∨ (t < M ∧ M' = M ∧ F' = F)) := by
  have s0 : f_Sets_keepChain (nI t) (nI x) h = (if h.1 5 4 0 < nI t then some (xsI (xsI h 5 4 0 (nI t)) 5 5 0 (nI x)) else if nI t = h.1 5 4 0 then (if h.1 5 5 0 ≤ nI x then some h else some (xsI (xsI h 5 4 0 (nI t)) 5 5 0 (nI x))) else some h) := rfl
  have w : ∀ c k i, ¬ c = 5 → (xsI (xsI h 5 4 0 (nI t)) 5 5 0 (nI x)).1 c k i = h.1 c k i := fun c k i q => by rw [rdI (by omega), rdI (by omega)]
  have w4 : (xsI (xsI h 5 4 0 (nI t)) 5 5 0 (nI x)).1 5 4 0 = nI t := by rw [rdI (by decide), rdI_s]
  rw [s0, e4, e5]
  rcases Nat.lt_trichotomy M t with q | q | q
  · exact ⟨_, t, nI x, if_pos (nI_lt q (by omega)), w4, rdI_s, ht, w, rfl, Or.inl ⟨q, rfl, rfl⟩⟩
  · subst q
    rw [if_neg (nI_nlt (Nat.le_refl _) (by omega)), if_pos rfl]
    by_cases z : F ≤ nI x
    · exact ⟨h, M, F, if_pos z, e4, e5, hM, fun _ _ _ _ => rfl, rfl, Or.inr (Or.inl ⟨rfl, rfl, Or.inr ⟨Int32.not_lt.mpr z, rfl⟩⟩)⟩
    · exact ⟨_, M, nI x, if_neg z, w4, rdI_s, hM, w, rfl, Or.inr (Or.inl ⟨rfl, rfl, Or.inl ⟨Int32.not_le.mp z, rfl⟩⟩)⟩
  · rw [if_neg (nI_nlt (by omega) (by omega)), if_neg (fun z => by have := (nI_eq (by omega) (by omega)).mp z; omega)]
    exact ⟨h, M, F, rfl, e4, e5, hM, fun _ _ _ _ => rfl, rfl, Or.inr (Or.inr ⟨q, rfl, rfl⟩)⟩
theorem c_findChain {h : xH} {n I : Nat} {U T : Nat → Nat} (h8 : n ≤ 8) (hI : I < 256) (hIn : ∀ o, I.testBit o = true → o < n) (e62 : h.1 6 2 0 = nI I) (hU : ∀ k, k < n → h.2.2.2.1 30 0 k = nI (U k) ∧ U k < 256) (hT : ∀ k, k < n → h.2.2.2.1 32 0 k = nI (T k) ∧ 1 ≤ T k ∧ T k ≤ 40) : ∃ h2 M F, f_Sets_findChain 0 h = some h2 ∧ chS h h2 ∧ h2.1 5 4 0 = nI M ∧ h2.1 5 5 0 = F ∧ isC I U T M F := by
  obtain ⟨A, eA, hA⟩ := c_addUp_32_24 (h := h) (i0 := 0)
  obtain ⟨g0, eg0⟩ : ∃ g0, g0 = xsI (xsI (xsA h 24 0 A) 5 4 0 0) 5 5 0 (-2) := ⟨_, rfl⟩
  have run0 : f_Sets_findChain 0 h = f_Sets_findChain_l24 0 1 g0 := by
    show (f_Sets_addUp_32_24 0 h).bind (fun h3 => f_Sets_findChain_l24 0 1 (xsI (xsI h3 5 4 0 0) 5 5 0 (-2))) = _
    rw [eA, Option.bind_some, eg0]
  have wtA : ∀ S, S < 256 → S &&& I = S → A S = nI (wt T S) ∧ wt T S ≤ 320 := by
    intro S hS hs
    have sub : ∀ k, S.testBit k = true → k < n := fun k z => by
      rw [← hs, Nat.testBit_and, Bool.and_eq_true] at z
      exact hIn k z.2
    exact ⟨by rw [hA S hS]; exact isum_n (fun k _ z => (hT k (sub k z)).1), wt_le (M := 40) (fun k z => (hT k (sub k z)).2.2)⟩
  have key := whl_cntE (step := fun s : Int32 × xH => f_Sets_findChain_s24 0 s.1 s.2) 255 (fun k s => s.1 = nI (k + 1) ∧ chS h s.2 ∧ s.2.2.2.2.1 24 0 = A ∧ (∀ S', S' < k + 1 → S' ≠ 0 → vbR I U S' (s.2.2.2.2.1 25 0 S')) ∧ ∃ M F, M < 2 ^ 30 ∧ s.2.1 5 4 0 = nI M ∧ s.2.1 5 5 0 = F ∧ isD I U T (k + 1) M F) (fun h2 => chS h h2 ∧ ∃ M F, h2.1 5 4 0 = nI M ∧ h2.1 5 5 0 = F ∧ isD I U T 256 M F) ?_ ?_ (1, g0) ⟨rfl, ⟨fun c k i q => by rw [eg0, rdI (by omega), rdI (by omega)]; rfl, fun f i q1 q2 => by rw [eg0]; exact rdA_n q1⟩, by rw [eg0]; exact rdA_s, fun S' h1 h2 => by omega, 0, -2, by decide, by rw [eg0, rdI (by decide), rdI_s]; rfl, by rw [eg0, rdI_s], ?_⟩
  · obtain ⟨h2, e, f, M, F, e4, e5, hD⟩ := key
    refine ⟨h2, M, F, by rw [run0]; exact e, f, e4, e5, ?_⟩
    have lt : ∀ q m, cP I U q m → sP q m < 256 := fun q m hc => sP_lt (cP_d hI hc).1
    exact ⟨fun q m hm hc => hD.1 q m hm hc (lt q m hc), hD.2.imp id (fun ⟨a, q, m, b, c, d, e, f, g⟩ => ⟨a, q, m, b, c, e, f, fun q' m' hm' hc' => g q' m' hm' hc' (lt q' m' hc')⟩)⟩
  · rintro k hk ⟨q1, g⟩ ⟨e1, f, e24, l, M, F, hM, e4, e5, hD⟩
    have e1 : q1 = nI (k + 1) := e1
    subst e1
    have f : chS h g := f
    have e24 : g.2.2.2.1 24 0 = A := e24
    have l : ∀ S', S' < k + 1 → S' ≠ 0 → vbR I U S' (g.2.2.2.1 25 0 S') := l
    have e4 : g.1 5 4 0 = nI M := e4
    have e5 : g.1 5 5 0 = F := e5
    left
    have g62 : g.1 6 2 0 = nI I := (f.1 6 2 0 (by decide)).trans e62
    obtain ⟨w, hw, vw⟩ : ∃ w, f_Sets_findChain_s24 0 (nI (k + 1)) g = f_Sets_findChain_b57 0 (nI (k + 1)) w (nI (k + 1)) g ∧ vbR I U (k + 1) w := by
      have s0 : f_Sets_findChain_s24 0 (nI (k + 1)) g = (if (256 : Int32) ≤ nI (k + 1) then some (Sum.inr g) else if nI (k + 1) &&& (g.1 6 2 0 ^^^ (-1)) = 0 then (f_Sets_beginnersOf (nI (k + 1)) 0 g).bind (fun r8 => f_Sets_findChain_b57 0 (nI (k + 1)) r8 (nI (k + 1)) g) else f_Sets_findChain_b57 0 (nI (k + 1)) 0 (nI (k + 1)) g) := rfl
      rw [s0, if_neg (show ¬ (256 : Int32) ≤ nI (k + 1) from nI_ge (b := 256) (by omega) (by decide)), g62]
      by_cases q : (k + 1) &&& I = k + 1
      · rw [if_pos ((sb_sub (k + 1) (by omega) I hI).mpr q)]
        obtain ⟨w, ew, vw⟩ := c_begOf (h := g) h8 hI hIn (fun y hy => by rw [f.2 30 0 (by omega) (by omega)]; exact hU y hy) (S := k + 1) (by omega) (by omega) q l
        exact ⟨w, by rw [ew, Option.bind_some], vw⟩
      · rw [if_neg (fun z => q ((sb_sub (k + 1) (by omega) I hI).mp z))]
        exact ⟨0, rfl, 0, by decide, nI_0.symm, fun y => ⟨fun z => by (rw [Nat.zero_testBit] at z; cases z), fun z => absurd (bgn_sub z) q⟩⟩
    obtain ⟨v, hv8, rfl, hvb⟩ := vw
    obtain ⟨g1, eg1⟩ : ∃ g1, g1 = xsA g 25 0 (upd (g.2.2.2.1 25 0) (k + 1) (nI v)) := ⟨_, rfl⟩
    have f1 : chS h g1 := ⟨fun c' k' i' q => by rw [eg1]; exact f.1 c' k' i' q, fun f' i' z1 z2 => by rw [eg1, rdA_n z2]; exact f.2 f' i' z1 z2⟩
    have l1 : ∀ S', S' < k + 2 → S' ≠ 0 → vbR I U S' (g1.2.2.2.1 25 0 S') := fun S' h1 h2 => by
      rw [eg1, rdA_s]
      by_cases z : S' = k + 1
      · subst z
        rw [pk_us]
        exact ⟨v, hv8, rfl, hvb⟩
      · rw [pk_un z]
        exact l S' (by omega) h2
    have b57 : f_Sets_findChain_b57 0 (nI (k + 1)) (nI v) (nI (k + 1)) g = (if nI v = 0 then some (Sum.inl (nI (k + 2), g1)) else (f_Integer_numberOfTrailingZeros (nI v) g1).bind (fun r17 => (f_Sets_keepChain (A (k + 1)) r17 g1).bind (fun h21 => some (Sum.inl (nI (k + 2), h21))))) := by
      have s0 : f_Sets_findChain_b57 0 (nI (k + 1)) (nI v) (nI (k + 1)) g = (if xib (nI (k + 1)) 256 then xlet (xsA g 25 0 (upd (g.2.2.2.1 25 0) (nI (k + 1)).toNatClampNeg (nI v))) (fun h11 => if xib (nI (k + 1)) 256 then (if h11.2.2.2.1 25 0 (nI (k + 1)).toNatClampNeg = 0 then some (Sum.inl (nI (k + 1) + 1, h11)) else if xib (nI (k + 1)) 256 then (if xib (nI (k + 1)) 256 then (f_Integer_numberOfTrailingZeros (h11.2.2.2.1 25 0 (nI (k + 1)).toNatClampNeg) h11).bind (fun r17 => (f_Sets_keepChain (h11.2.2.2.1 24 0 (nI (k + 1)).toNatClampNeg) r17 h11).bind (fun h21 => some (Sum.inl (nI (k + 1) + 1, h21)))) else none) else none) else none) else none) := rfl
      have xk : xib (nI (k + 1)) 256 := xibN (by omega) (by decide)
      have ck : (nI (k + 1)).toNatClampNeg = k + 1 := nI_clamp (by omega)
      have eu : xsA g 25 0 (upd (g.2.2.2.1 25 0) (nI (k + 1)).toNatClampNeg (nI v)) = g1 := by rw [ck, eg1]
      have r25 : g1.2.2.2.1 25 0 (nI (k + 1)).toNatClampNeg = nI v := by rw [ck, eg1, rdA_s, pk_us]
      have r24 : g1.2.2.2.1 24 0 (nI (k + 1)).toNatClampNeg = A (k + 1) := by rw [ck, eg1, rdA_n (by decide), e24]
      rw [s0, if_pos xk, eu, xlet_e, if_pos xk, r25, r24, if_pos xk, if_pos xk, nI_1]
    by_cases v0 : v = 0
    · have nb : ∀ y, ¬ bgn I U (k + 1) y := fun y z => by
        have := (hvb y).mpr z
        rw [v0, Nat.zero_testBit] at this
        cases this
      refine ⟨(nI (k + 2), g1), ?_, rfl, f1, by show g1.2.2.2.1 24 0 = A; rw [eg1, rdA_n (by decide)]; exact e24, l1, M, F, hM, by show g1.1 5 4 0 = _; rw [eg1]; exact e4, by show g1.1 5 5 0 = _; rw [eg1]; exact e5, isD_n nb hD⟩
      show f_Sets_findChain_s24 0 (nI (k + 1)) g = _
      rw [hw, b57, v0, if_pos nI_0]
    · obtain ⟨t1, t2⟩ := tz_min v hv8 v0
      have hx := (hvb _).mp t1
      have hs := bgn_sub hx
      obtain ⟨wa, wl⟩ := wtA (k + 1) (by omega) hs
      have wp : 0 < wt T (k + 1) := by
        obtain ⟨q, m, hm, hc, e, -⟩ := hx
        rw [← e, ← rN_wt (cP_d hI hc), show m = (m - 1) + 1 by omega]
        have := (hT _ (hIn _ (hc.1 (m - 1) (by omega)))).2.1
        show 0 < rN T q (m - 1) + T (q (m - 1))
        omega
      obtain ⟨g2, M', F', eg2, k4, k5, hM', kI, kA, cs⟩ := c_keepChain (h := g1) (M := M) (F := F) (t := wt T (k + 1)) (x := tzN v) hM (by omega) (by rw [eg1]; exact e4) (by rw [eg1]; exact e5)
      refine ⟨(nI (k + 2), g2), ?_, rfl, ⟨fun c' k' i' q => (kI c' k' i' q).trans (f1.1 c' k' i' q), fun f' i' z1 z2 => by show g2.2.2.2.1 f' i' = _; rw [kA]; exact f1.2 f' i' z1 z2⟩, by show g2.2.2.2.1 24 0 = A; rw [kA, eg1, rdA_n (by decide)]; exact e24, by show ∀ S', S' < k + 1 + 1 → S' ≠ 0 → vbR I U S' (g2.2.2.2.1 25 0 S'); rw [kA]; exact l1, M', F', hM', k4, k5, isD_v hI hx (fun y z => t2 y (bit_hi hv8 ((hvb y).mpr z)) ((hvb y).mpr z)) wp hD cs⟩
      show f_Sets_findChain_s24 0 (nI (k + 1)) g = _
      rw [hw, b57, if_neg (nI_ne0 (by omega) (by omega)), c_tz hv8 v0, Option.bind_some, wa, eg2, Option.bind_some]
  · rintro ⟨q1, g⟩ ⟨e1, f, e24, l, M, F, hM, e4, e5, hD⟩
    have e1 : q1 = nI 256 := e1
    subst e1
    refine ⟨g, ?_, f, M, F, e4, e5, hD⟩
    show f_Sets_findChain_s24 0 (nI 256) g = _
    unfold f_Sets_findChain_s24
    rw [if_pos (by decide)]
  · refine ⟨fun q m hm hc hl => ?_, Or.inl ⟨rfl, rfl⟩⟩
    have : (sP q m).testBit (q 0) = true := sP_bit.mpr ⟨0, hm, rfl⟩
    rw [show sP q m = 0 by omega, Nat.zero_testBit] at this
    cases this
variable {Q : xH → Nat → Prop}
theorem p_chain (hQ : qOk Q) : lI_chain (jII Q) := by
  intro a h hj
  obtain ⟨R, hR, r1, r2, ⟨htp, hfx, him, n, m, c, hsc, hpa⟩, hq⟩ := id hj
  obtain ⟨hv, ht, hst, -, -⟩ := id hsc
  obtain ⟨v0, -⟩ := id hv
  have hw := wOk_v hv
  have h8 := hw.2.1
  have hmn : mN h n := ⟨hw.1, h8⟩
  have rf : ∀ h1 : xH, f_M_chain a h1 = (f_M_isTrug h1).bind (fun r1 => if r1 = 0 then some (-1, h1) else (f_M_in a.toInt64 0 1 h1).bind (fun r4 => if r4 = 0 then some (-1, h1) else f_M_chain_l34 a 0 (-2) 0 (xsA h1 59 0 (upd (h1.2.2.2.1 59 0) 0 (-1))))) := fun _ => rfl
  have cl : f_B_chain a h = (if h.1 8 0 0 = 0 then some (-1, h) else if a < 0 then some (-1, h) else if a ≤ 1 then (f_Sets_findChain 0 h).bind (fun h6 => if a = 0 then some (h6.1 5 4 0, h6) else some (h6.1 5 5 0, h6)) else some (-1, h)) := rfl
  have ma : ∀ h1 : xH, f_M_in a.toInt64 0 1 h1 = some (if a < 0 ∨ 1 < a then 0 else 1) := fun h1 => m_in a 0 1 (by decide) (by decide)
  by_cases z : mS h 0 = 0
  · exact ⟨-1, h, h, by rw [cl, ht.1, if_pos z], by rw [rf, m_isTrug v0, Option.bind_some, if_pos z], hj⟩
  by_cases a0 : a < 0
  · exact ⟨-1, h, h, by rw [cl, ht.1, if_neg z, if_pos a0], by rw [rf, m_isTrug v0, Option.bind_some, if_neg z, ma, if_pos (Or.inl a0)]; rfl, hj⟩
  by_cases a1 : ¬ a ≤ 1
  · exact ⟨-1, h, h, by rw [cl, ht.1, if_neg z, if_neg a0, if_neg a1], by rw [rf, m_isTrug v0, Option.bind_some, if_neg z, ma, if_pos (Or.inr (Int32.not_le.mp a1))]; rfl, hj⟩
  have a1 : a ≤ 1 := Decidable.not_not.mp a1
  obtain ⟨-, -, -, -, -, -, -, -, -, -, vk, -⟩ := id hv
  obtain ⟨T, hTd⟩ : ∃ T : Nat → Nat, T = fun k => (mS h (44 + k)).toNatClampNeg := ⟨_, rfl⟩
  have hT : ∀ k, k < n → mS h (44 + k) = nI (T k) ∧ 1 ≤ T k ∧ T k ≤ 40 := fun k hk => by
    obtain ⟨-, -, -, -, ⟨y, hy1, hy, ey⟩, -⟩ := vk k hk
    have : T k = y := by
      rw [hTd]
      show (mS h (44 + k)).toNatClampNeg = y
      rw [ey, nI_clamp (by omega)]
    rw [this]
    exact ⟨ey, hy1, hy⟩
  have I8 : bs (vIn (mS h)) n < 256 := bs_lt8 _ h8
  have In : ∀ o, (bs (vIn (mS h)) n).testBit o = true → o < n := fun o y => by
    rw [bs_bit, Bool.and_eq_true, decide_eq_true_iff] at y
    exact y.1
  obtain ⟨g1, M, F, eg1, f1, e4, e5, hC⟩ := c_findChain (h := h) (U := uV (mS h)) (T := T) h8 I8 In hst.2.2.1 (fun k hk => by rw [(hst.2.2.2.2 k hk).2.1]; exact uV_e hv hk) (fun k hk => by rw [(hst.2.2.2.2 k hk).2.2.2]; exact hT k hk)
  have eS : mS g1 = mS h := f1.2 56 0 (by omega) (by omega)
  obtain ⟨A, M', F', em, hC'⟩ := m_chain (h := g1) (n := n) (I := bs (vIn (mS h)) n) (U := uV (mS h)) (T := T) a ⟨by rw [eS]; exact hw.1, h8⟩ (fun k hk => by rw [eS]; exact uV_e hv hk) (fun k hk => by rw [eS]; exact ⟨(hT k hk).1, (hT k hk).2.2⟩) (by rw [mIn_v, eS])
  obtain ⟨rfl, rfl⟩ := isC_u hC hC'
  refine ⟨if a = 0 then nI M else F, g1, xsA g1 59 0 A, ?_, ?_, sameJ_jII hQ (sameJ_trans ⟨fun c' k' i' q => f1.1 c' k' i' (by unfold jF at q; omega), fun f' i' q => f1.2 f' i' (by unfold jG at q; omega) (by unfold jG at q; omega)⟩ (sameJ_A (by unfold jG; omega))) hj⟩
  · rw [cl, ht.1, if_neg z, if_neg a0, if_pos a1, eg1, Option.bind_some, e4, e5]
    by_cases q : a = 0
    · rw [if_pos q, if_pos q]
    · rw [if_neg q, if_neg q]
  · rw [rf, m_isTrug (by rw [eS]; exact v0), Option.bind_some, eS, if_neg z, ma, if_neg (fun y => y.elim a0 (Int32.not_lt.mpr a1)), Option.bind_some, if_neg (by decide), em]
