/-! PURE: who carries what; the pair -/
def ptF (h g : xH) : Prop := (∀ c k i, ¬ (c = 0 ∧ k = 0 ∧ i = 0) → g.1 c k i = h.1 c k i) ∧ ∀ f i, ¬ (i = 0 ∧ 13 ≤ f ∧ f ≤ 16) → g.2.2.2.1 f i = h.2.2.2.1 f i
theorem c_part {h : xH} {n I : Nat} {w ST : Nat → Nat} (h8 : n ≤ 8) (hI : I < 256) (hIn : ∀ o, I.testBit o = true → o < n) (e62 : h.1 6 2 0 = nI I) (hw : ∀ k, k < n → h.2.2.2.1 31 0 k = nI (w k) ∧ w k ≤ 20) (hs : ∀ c, c < 4 → h.2.2.2.1 41 0 c = nI (ST c) ∧ ST c ≤ 60) : ∃ h2 M b s v, f_Bearing_part 0 0 h = some h2 ∧ ptF h h2 ∧ h2.1 0 0 0 = nI M ∧ (∀ i, i < 8 → h2.2.2.2.1 13 0 i = nI (b i) - 1) ∧ paI I w ST M 8 b s v ∧ isM w ST I M := by
  obtain ⟨A, eA, hA⟩ := c_addUp_31_15 (h := h) (i0 := 0)
  obtain ⟨g1, eg1⟩ : ∃ g1, g1 = xsA h 15 0 A := ⟨_, rfl⟩
  obtain ⟨g2, eg2⟩ : ∃ g2, g2 = xsA g1 14 0 (va_cpy (g1.2.2.2.1 41 0) (g1.2.2.2.1 14 0) ((0 : Int32)).toNatClampNeg ((0 : Int32)).toNatClampNeg ((4 : Int32)).toNatClampNeg) := ⟨_, rfl⟩
  have wT : ∀ g : xH, g.2.2.2.1 15 0 = A → wTb g I w := fun g e S hS hs' => by
    have sub : ∀ k, S.testBit k = true → k < n := fun k z => by
      rw [← hs', Nat.testBit_and, Bool.and_eq_true] at z
      exact hIn k z.2
    rw [e, hA S hS]
    exact ⟨isum_n (fun k _ z => (hw k (sub k z)).1), wt_le (M := 20) (fun k z => (hw k (sub k z)).2)⟩
  have a2 : ∀ f i, ¬ (i = 0 ∧ 13 ≤ f ∧ f ≤ 16) → g2.2.2.2.1 f i = h.2.2.2.1 f i := fun f i z => by rw [eg2, rdA_n (by omega), eg1, rdA_n (by omega)]
  have e15 : g2.2.2.2.1 15 0 = A := by rw [eg2, rdA_n (by decide), eg1, rdA_s]
  have e14 : ∀ c, c < 4 → g2.2.2.2.1 14 0 c = nI (ST c) ∧ ST c ≤ 60 := fun c hc => by
    rw [eg2, rdA_s]
    show va_cpy (g1.2.2.2.1 41 0) (g1.2.2.2.1 14 0) 0 0 4 c = _ ∧ _
    rw [pk_cpy_in (by omega) (by omega), show 0 + (c - 0) = c by omega, eg1, rdA_n (by decide)]
    exact hs c hc
  obtain ⟨M, B, eM, hM, M160⟩ := c_mostOf (h := g2) (I := I) (R := I) hI (Nat.and_self I) (wT g2 e15) e14
  obtain ⟨g3, eg3⟩ : ∃ g3, g3 = xsI (xsA g2 16 0 B) 0 0 0 (nI M) := ⟨_, rfl⟩
  have c4 : ¬ (0 : Int32) < 0 ∧ ¬ (0 : Int32) < 0 ∧ ¬ (4 : Int32) < 0 ∧ ((0 : Int32)).toNatClampNeg + ((4 : Int32)).toNatClampNeg ≤ 4 ∧ ((0 : Int32)).toNatClampNeg + ((4 : Int32)).toNatClampNeg ≤ 4 := by decide +kernel
  have I2 : g2.1 = h.1 := by rw [eg2, eg1]; rfl
  have run0 : f_Bearing_part 0 0 h = f_Bearing_part_l46 0 0 (nI I) (nI M) 0 g3 := by
    show (f_Sets_addUp_31_15 0 h).bind (fun h3 => if ¬ (0 : Int32) < 0 ∧ ¬ (0 : Int32) < 0 ∧ ¬ (4 : Int32) < 0 ∧ ((0 : Int32)).toNatClampNeg + ((4 : Int32)).toNatClampNeg ≤ 4 ∧ ((0 : Int32)).toNatClampNeg + ((4 : Int32)).toNatClampNeg ≤ 4 then xlet (xsA h3 14 0 (va_cpy (h3.2.2.2.1 41 0) (h3.2.2.2.1 14 0) ((0 : Int32)).toNatClampNeg ((0 : Int32)).toNatClampNeg ((4 : Int32)).toNatClampNeg)) (fun h5 => (f_Bearing_mostOf (h5.1 6 2 0) h5).bind (fun q9 => f_Bearing_part_l46 0 0 (h5.1 6 2 0) q9.1 0 (xsI q9.2 0 0 0 q9.1))) else none) = _
    rw [eA, Option.bind_some, if_pos c4, ← eg1, xlet_e, ← eg2, I2, e62, eM, Option.bind_some, eg3]
  have key := whl_cntE (step := fun x : Int32 × Int32 × Int32 × xH => f_Bearing_part_s46 0 0 x.1 x.2.1 x.2.2.1 x.2.2.2) 8 (fun i x => x.2.2.1 = nI i ∧ ∃ b s v, x.1 = nI (rS I i) ∧ x.2.1 = nI v ∧ v ≤ 160 ∧ paI I w ST M i b s v ∧ ptF h x.2.2.2 ∧ x.2.2.2.1 0 0 0 = nI M ∧ x.2.2.2.2.2.2.1 15 0 = A ∧ (∀ c, c < 4 → x.2.2.2.2.2.2.1 14 0 c = nI (s c) ∧ s c ≤ 60) ∧ ∀ j, j < i → x.2.2.2.2.2.2.1 13 0 j = nI (b j) - 1) (fun h2 => ∃ b s v, ptF h h2 ∧ h2.1 0 0 0 = nI M ∧ (∀ i, i < 8 → h2.2.2.2.1 13 0 i = nI (b i) - 1) ∧ paI I w ST M 8 b s v) ?_ ?_ (nI I, nI M, 0, g3) ⟨nI_0.symm, fun _ => 0, ST, M, by rw [rS_0 hI], rfl, M160, ⟨fun _ _ => rfl, fun o z => absurd rfl z, fun _ => Nat.zero_le _, fun c _ => rfl, by rw [rS_0 hI]; exact hM, (Nat.zero_add M).symm, fun j hj => absurd hj (by omega)⟩, ⟨fun c k i z => by rw [eg3, rdI_3 z]; show g2.1 c k i = _; rw [I2], fun f i z => by rw [eg3]; show (xsA g2 16 0 B).2.2.2.1 f i = _; rw [rdA_n (by omega)]; exact a2 f i z⟩, by rw [eg3, rdI_s], by rw [eg3]; show (xsA g2 16 0 B).2.2.2.1 15 0 = _; rw [rdA_n (by decide)]; exact e15, fun c hc => by rw [eg3]; show (xsA g2 16 0 B).2.2.2.1 14 0 c = _ ∧ _; rw [rdA_n (by decide)]; exact e14 c hc, fun j hj => absurd hj (by omega)⟩
  · obtain ⟨h2, e, b, s, v, q1, q2, q3, q4⟩ := key
    exact ⟨h2, M, b, s, v, by rw [run0]; exact e, q1, q2, q3, q4, hM⟩
  · rintro i hi ⟨q0, q1, q2, g⟩ ⟨e2, b, s, v, e0, e1, v160, hp, f, eM0, k15, k14, k13⟩
    have e2 : q2 = nI i := e2
    have e0 : q0 = nI (rS I i) := e0
    have e1 : q1 = nI v := e1
    subst e2
    subst e0
    subst e1
    have f : ptF h g := f
    have eM0 : g.1 0 0 0 = nI M := eM0
    have k15 : g.2.2.2.1 15 0 = A := k15
    have k14 : ∀ c, c < 4 → g.2.2.2.1 14 0 c = nI (s c) ∧ s c ≤ 60 := k14
    have k13 : ∀ j, j < i → g.2.2.2.1 13 0 j = nI (b j) - 1 := k13
    left
    have xi : xib (nI i) 8 := xibN hi (by decide)
    have ci : (nI i).toNatClampNeg = i := nI_clamp (by omega)
    obtain ⟨g4, eg4⟩ : ∃ g4, g4 = xsA g 13 0 (upd (g.2.2.2.1 13 0) i (-1)) := ⟨_, rfl⟩
    have f4 : ptF h g4 := ⟨fun c k j z => by rw [eg4]; exact f.1 c k j z, fun f' j z => by rw [eg4, rdA_n (by omega)]; exact f.2 f' j z⟩
    have g62 : g4.1 6 2 0 = nI I := (f4.1 6 2 0 (by decide)).trans e62
    have s0 : f_Bearing_part_s46 0 0 (nI (rS I i)) (nI v) (nI i) g = (if I.testBit i = true then (f_Bearing_firstBearer (g4.2.2.2.1 31 0 (nI i).toNatClampNeg) (nI (rS I i) &&& (((1 : Int32) <<< (nI i &&& 31)) ^^^ (-1))) (nI v) g4).bind (fun q22 => xlet (xsA q22.2 13 0 (upd (q22.2.2.2.2.1 13 0) (nI i).toNatClampNeg q22.1)) (fun h24 => if h24.2.2.2.1 13 0 (nI i).toNatClampNeg = -1 then some (Sum.inl (nI (rS I i) &&& (((1 : Int32) <<< (nI i &&& 31)) ^^^ (-1)), nI v, nI (i + 1), h24)) else some (Sum.inl (nI (rS I i) &&& (((1 : Int32) <<< (nI i &&& 31)) ^^^ (-1)), nI v - h24.2.2.2.1 31 0 (nI i).toNatClampNeg, nI (i + 1), h24)))) else some (Sum.inl (nI (rS I i), nI v, nI (i + 1), g4))) := by
      have s1 : f_Bearing_part_s46 0 0 (nI (rS I i)) (nI v) (nI i) g = (if (8 : Int32) ≤ nI i then some (Sum.inr g) else if xib (nI i) 8 then xlet (xsA g 13 0 (upd (g.2.2.2.1 13 0) (nI i).toNatClampNeg (-1))) (fun h13 => (f_State_isIn 0 (nI i) h13).bind (fun r14 => if r14 = 0 then some (Sum.inl (nI (rS I i), nI v, nI i + 1, h13)) else if xib (nI i) 8 then (f_Bearing_firstBearer (h13.2.2.2.1 31 0 (nI i).toNatClampNeg) (nI (rS I i) &&& (((1 : Int32) <<< (nI i &&& 31)) ^^^ (-1))) (nI v) h13).bind (fun q22 => if xib (nI i) 8 then xlet (xsA q22.2 13 0 (upd (q22.2.2.2.2.1 13 0) (nI i).toNatClampNeg q22.1)) (fun h24 => if xib (nI i) 8 then (if h24.2.2.2.1 13 0 (nI i).toNatClampNeg = -1 then some (Sum.inl (nI (rS I i) &&& (((1 : Int32) <<< (nI i &&& 31)) ^^^ (-1)), nI v, nI i + 1, h24)) else if xib (nI i) 8 then some (Sum.inl (nI (rS I i) &&& (((1 : Int32) <<< (nI i &&& 31)) ^^^ (-1)), nI v - h24.2.2.2.1 31 0 (nI i).toNatClampNeg, nI i + 1, h24)) else none) else none) else none) else none)) else none) := rfl
      have eu : xsA g 13 0 (upd (g.2.2.2.1 13 0) (nI i).toNatClampNeg (-1)) = g4 := by rw [ci, eg4]
      rw [s1, if_neg (show ¬ (8 : Int32) ≤ nI i from nI_ge (b := 8) hi (by decide)), if_pos xi, eu, xlet_e, c_isIn8 hI g62 hi, Option.bind_some, sel_e, nI_1]
      simp only [if_pos xi]
    by_cases q : I.testBit i = true
    · have iN := hIn i q
      have r31 : g4.2.2.2.1 31 0 (nI i).toNatClampNeg = nI (w i) := by rw [f4.2 31 0 (by omega), ci]; exact (hw i iN).1
      have rc : nI (rS I i) &&& (((1 : Int32) <<< (nI i &&& 31)) ^^^ (-1)) = nI (rS I (i + 1)) := by
        rw [sb_clr _ rS_lt i hi ((rS_bit hI).mpr ⟨q, Nat.le_refl _⟩), ← rS_y hI q, or_clr _ rS_lt i hi (rS_f hI)]
      obtain ⟨x, s', v', g5, e5, f5, k5, m5, v5, cs, gr⟩ := c_first (h := g4) (I := I) (R := rS I (i + 1)) (i := i) (v := v) (w := w) (s := s) (by rw [rS_y hI q]; exact rS_lt) (by rw [rS_y hI q]; exact rS_sub hI) hi (rS_f hI) (wT g4 (by rw [eg4, rdA_n (by decide)]; exact k15)) (fun c hc => by rw [eg4, rdA_n (by decide)]; exact k14 c hc) (hw i iN).2 (by rw [rS_y hI q]; exact hp.2.2.2.2.1) v160
      have hp' := paI_y hI hi q hp m5 cs gr
      have x4 : x ≤ 4 := by
        rcases cs with ⟨a, -⟩ | ⟨c, a, c4', -⟩ <;> omega
      obtain ⟨g6, eg6⟩ : ∃ g6, g6 = xsA g5 13 0 (upd (g5.2.2.2.1 13 0) i (nI x - 1)) := ⟨_, rfl⟩
      have f6 : ptF h g6 := ⟨fun c k j z => by rw [eg6]; show g5.1 c k j = _; rw [f5.1]; exact f4.1 c k j z, fun f' j z => by rw [eg6, rdA_n (by omega), f5.2 f' j (by omega)]; exact f4.2 f' j z⟩
      have eu6 : xsA g5 13 0 (upd (g5.2.2.2.1 13 0) (nI i).toNatClampNeg (nI x - 1)) = g6 := by rw [ci, eg6]
      have r13 : g6.2.2.2.1 13 0 (nI i).toNatClampNeg = nI x - 1 := by rw [eg6, rdA_s, ci, pk_us]
      have r31' : g6.2.2.2.1 31 0 (nI i).toNatClampNeg = nI (w i) := by rw [f6.2 31 0 (by omega), ci]; exact (hw i iN).1
      have run : f_Bearing_part_s46 0 0 (nI (rS I i)) (nI v) (nI i) g = some (Sum.inl (nI (rS I (i + 1)), nI v', nI (i + 1), g6)) := by
        rw [s0, if_pos q, r31, rc, e5, Option.bind_some, eu6, xlet_e, r13, r31']
        rcases cs with ⟨a, -, a3⟩ | ⟨c, a, c4', ws, -, a3⟩
        · rw [a, if_pos (by decide), a3]
        · rw [if_neg (fun z => by rw [a, nI_pred] at z; exact nI_nm1 (by omega) z), pk_sub (by omega), show v - w i = v' by omega]
      refine ⟨_, run, rfl, upA b i x, s', v', rfl, rfl, v5, hp', f6, ?_, ?_, fun c hc => ?_, fun j hj => ?_⟩
      · show g6.1 0 0 0 = _
        rw [eg6]
        show g5.1 0 0 0 = _
        rw [f5.1, eg4]
        exact eM0
      · show g6.2.2.2.1 15 0 = _
        rw [eg6, rdA_n (by decide), f5.2 15 0 (by omega), eg4, rdA_n (by decide)]
        exact k15
      · show g6.2.2.2.1 14 0 c = _ ∧ _
        rw [eg6, rdA_n (by decide)]
        exact k5 c hc
      · show g6.2.2.2.1 13 0 j = _
        rw [eg6, rdA_s]
        by_cases z : j = i
        · rw [z, pk_us, upA_s]
        · rw [pk_un z, upA_n z, f5.2 13 0 (by omega), eg4, rdA_s, pk_un z]
          exact k13 j (by omega)
    · have q' : I.testBit i = false := by
        cases hb : I.testBit i with
        | true => exact absurd hb q
        | false => rfl
      refine ⟨_, by show f_Bearing_part_s46 0 0 (nI (rS I i)) (nI v) (nI i) g = _; rw [s0, if_neg q], rfl, b, s, v, by rw [rS_n hI q'], rfl, v160, paI_n hI q' hp, f4, by show g4.1 0 0 0 = _; rw [eg4]; exact eM0, by show g4.2.2.2.1 15 0 = _; rw [eg4, rdA_n (by decide)]; exact k15, fun c hc => by show g4.2.2.2.1 14 0 c = _ ∧ _; rw [eg4, rdA_n (by decide)]; exact k14 c hc, fun j hj => ?_⟩
      show g4.2.2.2.1 13 0 j = _
      rw [eg4, rdA_s]
      by_cases z : j = i
      · rw [z, pk_us, hp.1 i (Nat.le_refl _)]
        decide
      · rw [pk_un z]
        exact k13 j (by omega)
  · rintro ⟨q0, q1, q2, g⟩ ⟨e2, b, s, v, e0, e1, v160, hp, f, eM0, k15, k14, k13⟩
    have e2 : q2 = nI 8 := e2
    subst e2
    refine ⟨g, ?_, b, s, v, f, eM0, k13, hp⟩
    show f_Bearing_part_s46 0 0 q0 q1 (nI 8) g = _
    unfold f_Bearing_part_s46
    rw [if_pos (by decide)]
theorem nsum_ge {f : Nat → Nat} {p : Nat → Bool} {i : Nat} (hp : p i = true) : ∀ {n : Nat}, i < n → f i ≤ nsum f p n
  | 0, h => absurd h (by omega)
  | n + 1, h => by
    show f i ≤ nsum f p n + (if p n then f n else 0)
    by_cases z : i = n
    · subst z
      rw [hp, if_pos rfl]
      omega
    · have := nsum_ge (f := f) hp (n := n) (by omega)
      omega
theorem nsum_mono {f : Nat → Nat} {p : Nat → Bool} {k : Nat} : ∀ d, nsum f p k ≤ nsum f p (k + d)
  | 0 => Nat.le_refl _
  | d + 1 => Nat.le_trans (nsum_mono d) (Nat.le_add_right _ _)
theorem aP_ld {I m k : Nat} {w ST a : Nat → Nat} (h : aP I m w ST a k) (c : Nat) : ldk w a (c + 1) k ≤ ST c ∨ ldk w a (c + 1) k = 0 := by
  induction k with
  | zero => exact Or.inr rfl
  | succ k ih =>
    by_cases z : a k = c + 1
    · have := ((h k (by omega)).2 (by omega)).2
      rw [z, show c + 1 - 1 = c by omega] at this
      exact Or.inl this
    · rw [ldk_s, if_neg z]
      exact ih (aP_le h (by omega))
theorem isK_of {I m n M : Nat} {w ST b s : Nat → Nat} {v : Nat} (hI : I < 256) (n8 : n ≤ 8) (m4 : m ≤ 4) (hIn : ∀ o, I.testBit o = true → o < n) (hw : ∀ k, k < n → 1 ≤ w k) (hz : ∀ c, m ≤ c → c < 4 → ST c = 0) (hp : paI I w ST M 8 b s v) (hM : isM w ST I M) : isK I m n w ST M b := by
  obtain ⟨h1, h2, h3, h4, h5, h6, h7⟩ := hp
  have v0 : v = 0 := by
    obtain ⟨⟨a, a1, a2⟩, -⟩ := h5
    rw [← a2]
    apply nsum_0
    intro o _
    apply decide_eq_false
    intro z
    have := a1.1 o z
    rw [rS_8 hI, Nat.zero_testBit] at this
    cases this
  have toA : ∀ q, aP I m w ST q n → asg w ST I (fun o => if o < n then q o else 0) ∧ vN w (fun o => if o < n then q o else 0) 8 = vN w q n := by
    intro q hq
    have cut : ∀ c, ldk w (fun o => if o < n then q o else 0) (c + 1) 8 = ldk w q (c + 1) n := fun c => by
      have e1 : ldk w (fun o => if o < n then q o else 0) (c + 1) n = ldk w q (c + 1) n := ldk_c (fun o ho => if_pos ho)
      rw [← e1]
      have := nsum_split (f := w) (p := fun o => decide ((if o < n then q o else 0) = c + 1)) (i := n) (n := 8) n8
      rw [nsum_0 (f := w) (p := fun o => decide ((if o < n then q o else 0) = c + 1) && decide (n ≤ o)) (n := 8) (fun o _ => by
        by_cases z : n ≤ o
        · rw [if_neg (by omega), decide_eq_false (by omega), Bool.false_and]
        · rw [decide_eq_false z, Bool.and_false])] at this
      exact this
    refine ⟨⟨fun o z => ?_, fun o => ?_, fun c hc => ?_⟩, ?_⟩
    · by_cases y : o < n
      · rw [show (fun o => if o < n then q o else 0) o = q o from if_pos y] at z
        exact ((hq o y).2 z).1
      · rw [show (fun o => if o < n then q o else 0) o = 0 from if_neg y] at z
        exact absurd rfl z
    · show (if o < n then q o else 0) ≤ 4
      by_cases y : o < n
      · rw [if_pos y]; exact Nat.le_trans (hq o y).1 m4
      · rw [if_neg y]; omega
    · rw [cut c]
      rcases aP_ld hq c with y | y
      · exact y
      · omega
    · have e1 : vN w (fun o => if o < n then q o else 0) n = vN w q n := vN_c (fun o ho => if_pos ho)
      rw [← e1]
      have := nsum_split (f := w) (p := fun o => decide ((if o < n then q o else 0) ≠ 0)) (i := n) (n := 8) n8
      rw [nsum_0 (f := w) (p := fun o => decide ((if o < n then q o else 0) ≠ 0) && decide (n ≤ o)) (n := 8) (fun o _ => by
        by_cases z : n ≤ o
        · rw [if_neg (by omega), decide_eq_false (fun y => y rfl), Bool.false_and]
        · rw [decide_eq_false z, Bool.and_false])] at this
      exact this
  have bz : ∀ o, n ≤ o → b o = 0 := fun o ho => by
    by_cases z : b o = 0
    · exact z
    · have := hIn o (h2 o z)
      omega
  have vb : vN w b n = M := by
    have := vN_tl (w := w) (q := b) (i := n) n8
    have e0 : vN w (tlA b n) 8 = 0 := nsum_0 (fun o _ => decide_eq_false (by
      unfold tlA
      by_cases z : o < n
      · rw [if_pos z]; exact fun y => y rfl
      · rw [if_neg z, bz o (by omega)]; exact fun y => y rfl))
    omega
  have lb : ∀ c, c < 4 → ldk w b (c + 1) 8 ≤ ST c := fun c hc => by
    have := h4 c hc
    omega
  refine ⟨fun q hq => ?_, fun i hi => ⟨?_, fun z => ⟨h2 i z, ?_⟩⟩, vb, fun i hi q ag lt hq => ?_⟩
  · obtain ⟨x1, x2⟩ := toA q hq
    rw [← x2]
    exact hM.2 _ x1
  · by_cases z : b i ≤ m
    · exact z
    · exfalso
      have b4 := h3 i
      have l1 := lb (b i - 1) (by omega)
      rw [hz (b i - 1) (by omega) (by omega), show b i - 1 + 1 = b i by omega] at l1
      have l2 := nsum_ge (f := w) (p := fun o => decide (b o = b i)) (i := i) (decide_eq_true rfl) (n := 8) (by omega)
      have l3 : nsum w (fun o => decide (b o = b i)) 8 = ldk w b (b i) 8 := rfl
      have := hw i hi
      omega
  · have b4 := h3 i
    have l1 := lb (b i - 1) (by omega)
    rw [show b i - 1 + 1 = b i by omega] at l1
    have l2 := nsum_mono (f := w) (p := fun o => decide (b o = b i)) (k := i + 1) (8 - (i + 1))
    rw [show i + 1 + (8 - (i + 1)) = 8 by omega] at l2
    exact Nat.le_trans l2 l1
  · obtain ⟨x1, x2⟩ := toA q hq
    rw [← x2]
    refine h7 i (by omega) _ x1 (fun k hk => ?_) ?_
    · show (if k < n then q k else 0) = b k
      rw [if_pos (by omega)]
      exact ag k hk
    · show (if i < n then q i else 0) < b i
      rw [if_pos hi]
      exact lt
variable {Q : xH → Nat → Prop}
theorem p_carry (hQ : qOk Q) : lI_carry (jII Q) := by
  intro a h hj
  obtain ⟨R, hR, r1, r2, ⟨htp, hfx, him, n, m, c, hsc, hpa⟩, hq⟩ := id hj
  obtain ⟨hv, ht, hst, -, -⟩ := id hsc
  obtain ⟨v0, -⟩ := id hv
  have hwk := wOk_v hv
  have h8 := hwk.2.1
  have hmn : mN h n := ⟨hwk.1, h8⟩
  obtain ⟨-, -, -, -, -, -, v4, m4, -, -, vk, vm, -⟩ := id hv
  have rf : ∀ h1 : xH, f_M_carry a h1 = (f_M_isTrug h1).bind (fun r1 => if r1 = 0 then some (-3, h1) else (f_M_in a.toInt64 (-1) 7 h1).bind (fun r4 => if r4 = 0 then some (-3, h1) else (f_M_findsCarry h1).bind (fun q9 => if a = -1 then some (q9.1, q9.2) else (f_M_isInside_i a q9.2).bind (fun r11 => if r11 = 0 then some (-2, q9.2) else if xib a 8 then some (q9.2.2.2.2.1 62 0 a.toNatClampNeg, q9.2) else none)))) := fun _ => rfl
  have cl : f_B_carry a h = (if h.1 8 0 0 = 0 then some (-3, h) else if a < -1 then some (-3, h) else if a < 8 then (if a = -1 then (f_Bearing_part 0 0 h).bind (fun h7 => if a = -1 then some (h7.1 0 0 0, h7) else if xib a 8 then some (h7.2.2.2.1 13 0 a.toNatClampNeg, h7) else none) else (f_State_isIn 0 a h).bind (fun r10 => if r10 = 0 then some (-2, h) else (f_Bearing_part 0 0 h).bind (fun h7 => if a = -1 then some (h7.1 0 0 0, h7) else if xib a 8 then some (h7.2.2.2.1 13 0 a.toNatClampNeg, h7) else none))) else some (-3, h)) := rfl
  have ma : ∀ h1 : xH, f_M_in a.toInt64 (-1) 7 h1 = some (if a < -1 ∨ 7 < a then 0 else 1) := fun h1 => m_in a (-1) 7 (by decide) (by decide)
  by_cases z : mS h 0 = 0
  · exact ⟨-3, h, h, by rw [cl, ht.1, if_pos z], by rw [rf, m_isTrug v0, Option.bind_some, if_pos z], hj⟩
  by_cases a0 : a < -1
  · exact ⟨-3, h, h, by rw [cl, ht.1, if_neg z, if_pos a0], by rw [rf, m_isTrug v0, Option.bind_some, if_neg z, ma, if_pos (Or.inl a0)]; rfl, hj⟩
  have c78 : a < 8 ↔ ¬ 7 < a := by
    rw [Int32.lt_iff_toInt_lt, Int32.lt_iff_toInt_lt]
    show a.toInt < (8 : Int) ↔ ¬ (7 : Int) < a.toInt
    omega
  by_cases a1 : ¬ a < 8
  · refine ⟨-3, h, h, by rw [cl, ht.1, if_neg z, if_neg a0, if_neg a1], ?_, hj⟩
    rw [rf, m_isTrug v0, Option.bind_some, if_neg z, ma, if_pos (Or.inr (Decidable.not_not.mp (fun y => a1 (c78.mpr y))))]
    rfl
  have a1 : a < 8 := Decidable.not_not.mp a1
  obtain ⟨w, hwd⟩ : ∃ w : Nat → Nat, w = fun k => (mS h (28 + k)).toNatClampNeg := ⟨_, rfl⟩
  obtain ⟨ST, hSd⟩ : ∃ ST : Nat → Nat, ST = fun c => if c < m then (mS h (60 + c)).toNatClampNeg else 0 := ⟨_, rfl⟩
  have hw : ∀ k, k < n → mS h (28 + k) = nI (w k) ∧ 1 ≤ w k ∧ w k ≤ 20 := fun k hk => by
    obtain ⟨-, -, ⟨y, hy1, hy, ey⟩, -⟩ := vk k hk
    have : w k = y := by
      rw [hwd]
      show (mS h (28 + k)).toNatClampNeg = y
      rw [ey, nI_clamp (by omega)]
    rw [this]
    exact ⟨ey, hy1, hy⟩
  have hs : ∀ c, c < m → mS h (60 + c) = nI (ST c) ∧ ST c ≤ 60 := fun c hc => by
    obtain ⟨y, hy1, hy, ey⟩ := vm c hc
    have : ST c = y := by
      rw [hSd]
      show (if c < m then (mS h (60 + c)).toNatClampNeg else 0) = y
      rw [if_pos hc, ey, nI_clamp (by omega)]
    rw [this]
    exact ⟨ey, hy⟩
  have hz : ∀ c, m ≤ c → c < 4 → ST c = 0 := fun c h1 _ => by rw [hSd]; exact if_neg (by omega)
  have I8 : bs (vIn (mS h)) n < 256 := bs_lt8 _ h8
  have In : ∀ o, (bs (vIn (mS h)) n).testBit o = true → o < n := fun o y => by
    rw [bs_bit, Bool.and_eq_true, decide_eq_true_iff] at y
    exact y.1
  have mF : ∀ g1 : xH, mS g1 = mS h → ∃ h2 M r, f_M_findsCarry g1 = some (nI M, h2) ∧ caM g1 h2 ∧ (∀ i, i < n → h2.2.2.2.1 62 0 i = nI (r i) - 1) ∧ isK (bs (vIn (mS h)) n) m n w ST M r := fun g1 eS => m_findsCarry (h := g1) (n := n) (m := m) ⟨by rw [eS]; exact hwk.1, h8⟩ (by rw [eS]; exact v4) m4 (by rw [mIn_v, eS]) (by rw [eS]; exact fun o ho => ⟨(hw o ho).1, (hw o ho).2.2⟩) (by rw [eS]; exact hs)
  have caJ : ∀ g1 g2 : xH, caM g1 g2 → sameJ g1 g2 := fun g1 g2 c => ⟨fun c' k' i' _ => by rw [c.1], fun f' i' q => c.2 f' i' (by unfold jG at q; omega)⟩
  obtain ⟨g1, M, b, s, v, eg1, f1, eM, e13, hp, hM⟩ := c_part (h := h) (n := n) (I := bs (vIn (mS h)) n) (w := w) (ST := ST) h8 I8 In hst.2.2.1 (fun k hk => by rw [(hst.2.2.2.2 k hk).2.2.1]; exact ⟨(hw k hk).1, (hw k hk).2.2⟩) (fun c hc => by
    by_cases y : c < m
    · rw [ht.2.2.2.2.2.2.1 c y]; exact hs c y
    · rw [ht.2.2.2.2.2.2.2 c (by omega) hc, hz c (by omega) hc]; exact ⟨nI_0.symm, by decide⟩)
  have hK := isK_of I8 h8 m4 In (fun k hk => (hw k hk).2.1) hz hp hM
  have eS : mS g1 = mS h := f1.2 56 0 (by omega)
  have J1 : sameJ h g1 := ⟨fun c' k' i' q => f1.1 c' k' i' (by unfold jF at q; omega), fun f' i' q => f1.2 f' i' (by unfold jG at q; omega)⟩
  obtain ⟨g2, M', r, eg2, c2, e62, hK'⟩ := mF g1 eS
  obtain ⟨rfl, hrr⟩ := isK_u hK hK'
  have J2 : jII Q g2 := sameJ_jII hQ (sameJ_trans J1 (caJ _ _ c2)) hj
  have eS2 : mS g2 = mS h := (c2.2 56 0 (by omega)).trans eS
  have mr : f_M_carry a g1 = (if a = -1 then some (nI M, g2) else (f_M_isInside_i a g2).bind (fun r11 => if r11 = 0 then some (-2, g2) else if xib a 8 then some (g2.2.2.2.1 62 0 a.toNatClampNeg, g2) else none)) := by
    rw [rf, m_isTrug (by rw [eS]; exact v0), Option.bind_some, eS, if_neg z, ma, if_neg (fun y => y.elim a0 (c78.mp a1)), Option.bind_some, if_neg (by decide), eg2, Option.bind_some]
  by_cases q1 : a = -1
  · refine ⟨nI M, g1, g2, ?_, by rw [mr, if_pos q1], J2⟩
    rw [cl, ht.1, if_neg z, if_neg a0, if_pos a1, if_pos q1, eg1, Option.bind_some, if_pos q1, eM]
  · obtain ⟨bb, em, ec, hb⟩ := in_both hmn hst a
    cases bb with
    | false =>
      obtain ⟨k2, M2, r2', ek2, ck2, -, -⟩ := mF h rfl
      have eSk : mS k2 = mS h := ck2.2 56 0 (by omega)
      have emk : f_M_isInside_i a k2 = some 0 := by
        have hnk : mN k2 n := ⟨by rw [eSk]; exact hwk.1, h8⟩
        rcases pk_ix a (n := n) (by omega) with y | y | ⟨j, hjn, rfl⟩
        · exact m_isInside_out hnk (Or.inl y)
        · exact m_isInside_out hnk (Or.inr y)
        · rw [m_isInside_in hmn hjn] at em
          rw [m_isInside_in hnk hjn]
          have : mIn k2 j = mIn h j := by unfold mIn; rw [eSk]
          rw [this]
          exact em
      refine ⟨-2, h, k2, ?_, ?_, sameJ_jII hQ (caJ _ _ ck2) hj⟩
      · rw [cl, ht.1, if_neg z, if_neg a0, if_pos a1, if_neg q1, ec]
        rfl
      · rw [rf, m_isTrug v0, Option.bind_some, if_neg z, ma, if_neg (fun y => y.elim a0 (c78.mp a1)), Option.bind_some, if_neg (by decide), ek2, Option.bind_some, if_neg q1, emk, Option.bind_some, if_pos rfl]
    | true =>
      obtain ⟨j, hjn, rfl, hin⟩ := hb rfl
      refine ⟨nI (b j) - 1, g1, g2, ?_, ?_, J2⟩
      · rw [cl, ht.1, if_neg z, if_neg a0, if_pos a1, if_neg q1, ec, Option.bind_some, if_neg (by decide), eg1, Option.bind_some, if_neg q1, if_pos (xibN (by omega) (by decide)), nI_clamp (by omega), e13 j (by omega)]
      · rw [mr, if_neg q1, in_at eS2 hmn hjn hin, Option.bind_some, if_neg (by decide), if_pos (xibN (by omega) (by decide)), nI_clamp (by omega), e62 j hjn, hrr j hjn]
