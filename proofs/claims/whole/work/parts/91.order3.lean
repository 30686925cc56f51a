/-! PURE: orders of lifting; the class's tables -/
noncomputable def ind (P : Prop) : Int32 := @ite _ P (Classical.propDecidable P) 1 0
theorem ind_t {P : Prop} (h : P) : ind P = 1 := @if_pos _ (Classical.propDecidable P) h _ _ _
theorem ind_f {P : Prop} (h : ¬ P) : ind P = 0 := @if_neg _ (Classical.propDecidable P) h _ _ _
theorem ind_0 {P : Prop} : ind P = 0 ↔ ¬ P := by
  constructor
  · intro z h
    rw [ind_t h] at z
    exact absurd z (by decide)
  · exact ind_f
theorem ind_01 {P : Prop} : ind P = 0 ∨ ind P = 1 := by
  by_cases h : P
  · exact Or.inr (ind_t h)
  · exact Or.inl (ind_f h)
theorem ind_c {P Q : Prop} (h : P ↔ Q) : ind P = ind Q := by rw [propext h]
/-- lifted in some order -/
def opS (I : Nat) (U T : Nat → Nat) (M0 D S : Nat) : Prop := ∃ q m, oP I U T M0 D q m ∧ sP q m = S
theorem opS_0 {I M0 D : Nat} {U T : Nat → Nat} : opS I U T M0 D 0 := ⟨fun _ => 0, 0, fun i hi => absurd hi (by omega), rfl⟩
theorem opS_sub {I M0 D S : Nat} {U T : Nat → Nat} (h : opS I U T M0 D S) : S &&& I = S := by
  obtain ⟨q, m, hc, rfl⟩ := h
  apply Nat.eq_of_testBit_eq
  intro j
  rw [Nat.testBit_and]
  cases hb : (sP q m).testBit j with
  | false => rfl
  | true =>
    obtain ⟨i, hi, e⟩ := sP_bit.mp hb
    rw [← e, (hc i hi).1]
    rfl
theorem opS_t {I M0 D S : Nat} {U T : Nat → Nat} (hI : I < 256) (h : opS I U T M0 D S) (h0 : S ≠ 0) : M0 + wt T S ≤ D := by
  obtain ⟨q, m, hc, rfl⟩ := h
  have m0 : m ≠ 0 := fun z => by subst z; exact h0 rfl
  have := (hc (m - 1) (by omega)).2.2.2
  rw [show m - 1 + 1 = m by omega, rN_wt (oP_d hI hc)] at this
  exact this
/-- it can be lifted behind those of S -/
def ldP (I : Nat) (U : Nat → Nat) (S s : Nat) : Prop := I.testBit s = true ∧ S.testBit s = false ∧ ∀ y, (U s).testBit y = true → I.testBit y = true → S.testBit y = true
theorem oP_s {I M0 D k s : Nat} {U T a : Nat → Nat} (hI : I < 256) (ha : oP I U T M0 D a k) (hl : ldP I U (sP a k) s) (ht : M0 + wt T (sP a k ||| 2 ^ s) ≤ D) : oP I U T M0 D (fun i => if i = k then s else a i) (k + 1) ∧ sP (fun i => if i = k then s else a i) (k + 1) = sP a k ||| 2 ^ s := by
  have ag : ∀ i, i < k → (fun i => if i = k then s else a i) i = a i := fun i hi => if_neg (by omega)
  have es : sP (fun i => if i = k then s else a i) (k + 1) = sP a k ||| 2 ^ s := by
    show sP (fun i => if i = k then s else a i) k ||| 2 ^ (if k = k then s else a k) = _
    rw [sP_congr ag, if_pos rfl]
  have hd : dR (fun i => if i = k then s else a i) (k + 1) := by
    have da := oP_d hI ha
    refine ⟨fun i hi => ?_, fun j i hj hi => ?_⟩
    · show (if i = k then s else a i) < 8
      by_cases z : i = k
      · rw [if_pos z]; exact bit_hi hI hl.1
      · rw [if_neg z]; exact da.1 i (by omega)
    · show (if j = k then s else a j) ≠ (if i = k then s else a i)
      rw [if_neg (show ¬ j = k by omega)]
      by_cases z : i = k
      · rw [if_pos z]
        intro w
        have := hl.2.1
        rw [sP_bit.mpr ⟨j, by omega, w⟩] at this
        cases this
      · rw [if_neg z]; exact da.2 j i hj (by omega)
  refine ⟨fun i hi => ?_, es⟩
  by_cases z : i = k
  · subst z
    have ei : (fun j => if j = i then s else a j) i = s := if_pos rfl
    refine ⟨by rw [ei]; exact hl.1, fun j hj => hd.2 j i hj hi, fun y h1 h2 => ?_, ?_⟩
    · rw [ei] at h1
      obtain ⟨j, hj, e⟩ := sP_bit.mp (hl.2.2 y h1 h2)
      exact ⟨j, hj, by rw [ag j hj]; exact e⟩
    · rw [rN_wt hd, es]; exact ht
  · exact oP_c ag ha i (by omega)
/-- two ways to the same set -/
theorem oP_x {I M0 D k m : Nat} {U T a b : Nat → Nat} (hI : I < 256) (ha : oP I U T M0 D a k) (hb : oP I U T M0 D b m) (hk : k ≤ m) (es : sP a k = sP b k) : oP I U T M0 D (fun i => if i < k then a i else b i) m ∧ ∀ i, k ≤ i → sP (fun i => if i < k then a i else b i) i = sP b i := by
  have ag : ∀ i, i < k → (fun i => if i < k then a i else b i) i = a i := fun i hi => if_pos hi
  have sc : ∀ d, sP (fun i => if i < k then a i else b i) (k + d) = sP b (k + d) := by
    intro d
    induction d with
    | zero =>
      show sP (fun i => if i < k then a i else b i) k = sP b k
      rw [sP_congr ag, es]
    | succ d ih =>
      show sP (fun i => if i < k then a i else b i) (k + d) ||| 2 ^ (if k + d < k then a (k + d) else b (k + d)) = sP b (k + d) ||| 2 ^ (b (k + d))
      rw [ih, if_neg (by omega)]
  have sc' : ∀ i, k ≤ i → sP (fun i => if i < k then a i else b i) i = sP b i := fun i hi => by
    have := sc (i - k)
    rw [show k + (i - k) = i by omega] at this
    exact this
  have db := oP_d hI hb
  have hd : dR (fun i => if i < k then a i else b i) m := by
    have da := oP_d hI ha
    refine ⟨fun i hi => ?_, fun j i hj hi => ?_⟩
    · show (if i < k then a i else b i) < 8
      by_cases z : i < k
      · rw [if_pos z]; exact da.1 i z
      · rw [if_neg z]; exact db.1 i hi
    · by_cases z : i < k
      · show (if j < k then a j else b j) ≠ (if i < k then a i else b i)
        rw [if_pos z, if_pos (show j < k by omega)]
        exact da.2 j i hj z
      · show (fun i => if i < k then a i else b i) j ≠ (if i < k then a i else b i)
        rw [if_neg z]
        intro w
        have h1 : (sP (fun i => if i < k then a i else b i) i).testBit (b i) = true := sP_bit.mpr ⟨j, hj, w⟩
        rw [sc' i (by omega)] at h1
        have h2 : (sP b i).testBit (b i) = false := dR_new (dR_le db (by omega))
        rw [h2] at h1
        cases h1
  refine ⟨fun i hi => ?_, sc'⟩
  by_cases z : i < k
  · exact oP_c ag ha i z
  · have ei : (fun i => if i < k then a i else b i) i = b i := if_neg z
    obtain ⟨b1, b2, b3, b4⟩ := hb i hi
    refine ⟨by rw [ei]; exact b1, fun j hj => hd.2 j i hj hi, fun y h1 h2 => ?_, ?_⟩
    · rw [ei] at h1
      have := sP_bit.mpr (b3 y h1 h2)
      rw [← sc' i (by omega)] at this
      exact sP_bit.mp this
    · rw [rN_wt (dR_le hd (by omega)), sc' (i + 1) (by omega), ← rN_wt (dR_le db (by omega))]
      exact b4
theorem opS_r {I M0 D S : Nat} {U T : Nat → Nat} (hI : I < 256) (hS : S < 256) (h0 : S ≠ 0) : opS I U T M0 D S ↔ S &&& I = S ∧ M0 + wt T S ≤ D ∧ ∃ i, i < 8 ∧ S.testBit i = true ∧ opS I U T M0 D (S - 2 ^ i) ∧ ∀ y, (U i).testBit y = true → I.testBit y = true → (S - 2 ^ i).testBit y = true := by
  constructor
  · intro h
    refine ⟨opS_sub h, opS_t hI h h0, ?_⟩
    obtain ⟨q, m, hc, rfl⟩ := h
    have m0 : m ≠ 0 := fun z => by subst z; exact h0 rfl
    obtain ⟨k, rfl⟩ : ∃ k, m = k + 1 := ⟨m - 1, by omega⟩
    have hd := oP_d hI hc
    have e : sP q (k + 1) - 2 ^ q k = sP q k := or_clr _ (sP_lt (dR_le hd (by omega)).1) _ (hd.1 k (by omega)) (dR_new hd)
    refine ⟨q k, hd.1 k (by omega), sP_bit.mpr ⟨k, by omega, rfl⟩, ⟨q, k, oP_le hc (by omega), e.symm⟩, fun y h1 h2 => ?_⟩
    rw [e]
    exact sP_bit.mpr ((hc k (by omega)).2.2.1 y h1 h2)
  · rintro ⟨h1, h2, i, i8, hi, ⟨q, m, hc, e⟩, hu⟩
    obtain ⟨c1, c2, c3⟩ := clr_or S hS i i8 hi
    have ii : I.testBit i = true := by
      rw [← h1, Nat.testBit_and, Bool.and_eq_true] at hi
      exact hi.2
    have := oP_s (s := i) hI hc ⟨ii, by rw [e]; exact c2, fun y y1 y2 => by rw [e]; exact hu y y1 y2⟩ (by rw [e, c1]; exact h2)
    exact ⟨_, _, this.1, by rw [this.2, e, c1]⟩
/-- from these one can go on to a best -/
def gdS (I : Nat) (U T E : Nat → Nat) (M0 D d t S : Nat) : Prop := ∃ q m k, k ≤ m ∧ oP I U T M0 D q m ∧ sP q k = S ∧ rN E q m = d ∧ rN T q m = t
theorem gdS_op {I M0 D d t S : Nat} {U T E : Nat → Nat} (h : gdS I U T E M0 D d t S) : opS I U T M0 D S := by
  obtain ⟨q, m, k, hk, hc, e, -⟩ := h
  exact ⟨q, k, oP_le hc hk, e⟩
theorem gdS_x {I M0 D d t k : Nat} {U T E p : Nat → Nat} (hI : I < 256) (hp : oP I U T M0 D p k) : gdS I U T E M0 D d t (sP p k) ↔ ∃ q m, k ≤ m ∧ (∀ i, i < k → q i = p i) ∧ oP I U T M0 D q m ∧ rN E q m = d ∧ rN T q m = t := by
  constructor
  · rintro ⟨b, m, j, hj, hb, e, e1, e2⟩
    have jk : j = k := by
      have h1 := sP_pc (oP_d hI (oP_le hb hj))
      rw [e, sP_pc (oP_d hI hp)] at h1
      exact h1.symm
    subst jk
    obtain ⟨x1, x2⟩ := oP_x hI hp hb hj e.symm
    refine ⟨_, m, hj, fun i hi => if_pos hi, x1, ?_, ?_⟩
    · rw [rN_wt (oP_d hI x1), x2 m hj, ← rN_wt (oP_d hI hb)]; exact e1
    · rw [rN_wt (oP_d hI x1), x2 m hj, ← rN_wt (oP_d hI hb)]; exact e2
  · rintro ⟨q, m, hk, ag, hq, e1, e2⟩
    exact ⟨q, m, k, hk, hq, sP_congr ag, e1, e2⟩
theorem gdS_r {I M0 D d t S : Nat} {U T E : Nat → Nat} (hI : I < 256) : gdS I U T E M0 D d t S ↔ opS I U T M0 D S ∧ ((wt E S = d ∧ wt T S = t) ∨ ∃ s, s < 8 ∧ ldP I U S s ∧ gdS I U T E M0 D d t (S ||| 2 ^ s)) := by
  constructor
  · intro h
    refine ⟨gdS_op h, ?_⟩
    obtain ⟨q, m, k, hk, hc, e, e1, e2⟩ := h
    have hd := oP_d hI hc
    by_cases z : k = m
    · subst z
      left
      rw [← e, ← rN_wt hd, ← rN_wt hd]
      exact ⟨e1, e2⟩
    · right
      have km : k < m := by omega
      obtain ⟨c1, c2, c3, c4⟩ := hc k km
      refine ⟨q k, hd.1 k km, ⟨c1, by rw [← e]; exact sP_f c2, fun y y1 y2 => by rw [← e]; exact sP_bit.mpr (c3 y y1 y2)⟩, q, m, k + 1, by omega, hc, ?_, e1, e2⟩
      rw [← e]
      rfl
  · rintro ⟨⟨a, k, ha, rfl⟩, h⟩
    rcases h with ⟨e1, e2⟩ | ⟨s, s8, hl, hg⟩
    · have hd := oP_d hI ha
      exact ⟨a, k, k, Nat.le_refl _, ha, rfl, by rw [rN_wt hd]; exact e1, by rw [rN_wt hd]; exact e2⟩
    · have n0 : sP a k ||| 2 ^ s ≠ 0 := fun z => by
        have := (or_bit (S := sP a k) (j := s) (k := s)).mpr (Or.inr rfl)
        rw [z, Nat.zero_testBit] at this
        cases this
      obtain ⟨x1, x2⟩ := oP_s hI ha hl (opS_t hI (gdS_op hg) n0)
      rw [← x2] at hg
      obtain ⟨q, m, hm, ag, hq, e1, e2⟩ := (gdS_x hI x1).mp hg
      refine (gdS_x hI ha).mpr ⟨q, m, by omega, fun i hi => ?_, hq, e1, e2⟩
      rw [ag i (by omega)]
      exact if_neg (by omega)
/-- what the tables are made of -/
def oCx (h : xH) (n I : Nat) (U T E : Nat → Nat) (M0 D : Nat) : Prop := n ≤ 8 ∧ I < 256 ∧ (∀ o, I.testBit o = true → o < n) ∧ h.1 6 2 0 = nI I ∧ h.1 6 0 0 = nI M0 ∧ h.1 8 1 0 = nI D ∧ M0 ≤ 9999 ∧ D ≤ 300 ∧ (∀ k, k < n → h.2.2.2.1 30 0 k = nI (U k) ∧ U k < 256) ∧ ∀ S, S < 256 → S &&& I = S → h.2.2.2.1 23 0 S = nI (wt E S) ∧ h.2.2.2.1 24 0 S = nI (wt T S) ∧ wt E S ≤ 240 ∧ wt T S ≤ 320
theorem oCx_of {h h' : xH} {n I M0 D : Nat} {U T E : Nat → Nat} (e1 : ∀ c k i, ¬ c = 5 → h'.1 c k i = h.1 c k i) (e2 : ∀ f, f = 30 ∨ f = 23 ∨ f = 24 → h'.2.2.2.1 f 0 = h.2.2.2.1 f 0) (h0 : oCx h n I U T E M0 D) : oCx h' n I U T E M0 D := by
  obtain ⟨a, b, c, d, e, f, g, i, j, k⟩ := h0
  refine ⟨a, b, c, by rw [e1 6 2 0 (by decide)]; exact d, by rw [e1 6 0 0 (by decide)]; exact e, by rw [e1 8 1 0 (by decide)]; exact f, g, i, by rw [e2 30 (by omega)]; exact j, ?_⟩
  rw [e2 23 (by omega), e2 24 (by omega)]
  exact k
theorem un_e {a B : Nat} (ha : a < 256) (hB : B < 256) {u : Nat} (hu : u < 256) : ((nI u &&& nI a) &&& (nI B ^^^ (-1 : Int32)) = 0) ↔ ∀ y, u.testBit y = true → a.testBit y = true → B.testBit y = true := by
  rw [sb_and u hu a ha, sb_sub _ (and_lt8 ha) B hB]
  constructor
  · intro z y y1 y2
    have : (u &&& a).testBit y = true := by rw [Nat.testBit_and, y1, y2]; rfl
    rw [← z, Nat.testBit_and, Bool.and_eq_true] at this
    exact this.2
  · intro z
    apply Nat.eq_of_testBit_eq
    intro y
    rw [Nat.testBit_and]
    cases hb : (u &&& a).testBit y with
    | false => rfl
    | true =>
      rw [Nat.testBit_and, Bool.and_eq_true] at hb
      rw [z y hb.1 hb.2]
      rfl
theorem c_isIn8 {h : xH} {I s : Nat} (hI : I < 256) (e : h.1 6 2 0 = nI I) (hs : s < 8) : f_State_isIn 0 (nI s) h = some (if I.testBit s = true then 1 else 0) := by
  have s0 : f_State_isIn 0 (nI s) h = (if nI s < 0 then some 0 else if (8 : Int32) ≤ nI s then some 0 else if (h.1 6 2 0 >>> (nI s &&& 31)) &&& 1 = 0 then some 0 else some 1) := rfl
  rw [s0, if_neg (nI_pos (by omega)), if_neg (show ¬ (8 : Int32) ≤ nI s from nI_ge (b := 8) hs (by decide)), e]
  by_cases q : I.testBit s = true
  · rw [if_neg (fun z => by rw [(c_bit0 hI hs).mp z] at q; cases q), if_pos q]
  · rw [if_pos ((c_bit0 hI hs).mpr (by cases hb : I.testBit s with | true => exact absurd hb q | false => rfl)), if_neg q]
/-- the open sets -/
theorem c_open63 {h : xH} {n I M0 D S : Nat} {U T E : Nat → Nat} {O : Nat → Int32} (hx : oCx h n I U T E M0 D) (hS : S < 256) (h0 : S ≠ 0) (hO : ∀ S', S' < S → O S' = ind (opS I U T M0 D S')) (v4 : Int32) (hv : (v4 = 1 ∧ S &&& I = S ∧ M0 + wt T S ≤ D) ∨ (v4 = 0 ∧ ¬ (S &&& I = S ∧ M0 + wt T S ≤ D))) (hOS : O S = 0) : ∃ O', f_Sets_findOpenSets_l63 0 0 (nI S) v4 0 (xsA h 26 0 O) = some (Sum.inl (nI (S + 1), xsA h 26 0 O')) ∧ (∀ S', S' < S → O' S' = O S') ∧ O' S = ind (opS I U T M0 D S) := by
  obtain ⟨h8, hI, hIn, e62, e60, e81, hM, hD, hU, -⟩ := hx
  have xS : xib (nI S) 256 := xibN hS (by decide)
  have cS : (nI S).toNatClampNeg = S := nI_clamp (by omega)
  have fin : ∀ (v5 : Int32) (B : Nat → Int32), xup (f_Sets_findOpenSets_b150 0 0 (nI S) (xsA h 26 0 B)) = (some (Sum.inr (Sum.inl (nI (S + 1), xsA h 26 0 B))) : Option ((Int32 × xH) ⊕ ((Int32 × xH) ⊕ xH))) := fun v5 B => by
    unfold f_Sets_findOpenSets_b150
    rw [xlet_e, nI_1]
    rfl
  rcases hv with ⟨rfl, hs, hm⟩ | ⟨rfl, hn⟩
  · have key := whl_cntE (step := fun s : Int32 × xH => f_Sets_findOpenSets_s63 0 0 (nI S) 1 s.1 s.2) 8 (fun i s => s.1 = nI i ∧ ∃ B, s.2 = xsA h 26 0 B ∧ (∀ S', S' < S → B S' = O S') ∧ B S = ind (∃ j, j < i ∧ S.testBit j = true ∧ opS I U T M0 D (S - 2 ^ j) ∧ ∀ y, (U j).testBit y = true → I.testBit y = true → (S - 2 ^ j).testBit y = true)) (fun x => ∃ O', x = Sum.inl (nI (S + 1), xsA h 26 0 O') ∧ (∀ S', S' < S → O' S' = O S') ∧ O' S = ind (opS I U T M0 D S)) ?_ ?_ (0, xsA h 26 0 O) ⟨nI_0.symm, O, rfl, fun _ _ => rfl, by rw [hOS, ind_f (fun ⟨j, hj, _⟩ => absurd hj (by omega))]⟩
    · obtain ⟨x, e, O', rfl, q⟩ := key
      exact ⟨O', e, q⟩
    · rintro i hi ⟨q1, g⟩ ⟨e1, B, eg, l, bS⟩
      have e1 : q1 = nI i := e1
      have eg : g = xsA h 26 0 B := eg
      subst e1
      subst eg
      have s0 : f_Sets_findOpenSets_s63 0 0 (nI S) 1 (nI i) (xsA h 26 0 B) = (if (8 : Int32) ≤ nI i then xup (f_Sets_findOpenSets_b150 0 0 (nI S) (xsA h 26 0 B)) else if (1 : Int32) = 0 then xup (f_Sets_findOpenSets_b150 0 0 (nI S) (xsA h 26 0 B)) else if xib (nI S) 256 then (if (xsA h 26 0 B).2.2.2.1 26 0 (nI S).toNatClampNeg = 0 then (f_Sets_has (nI S) (nI i) (xsA h 26 0 B)).bind (fun r15 => if r15 = 0 then f_Sets_findOpenSets_b142 0 0 (nI S) 1 (nI i) (nI S) (xsA h 26 0 B) else if xib (nI S &&& (((1 : Int32) <<< (nI i &&& 31)) ^^^ (-1))) 256 then (if (xsA h 26 0 B).2.2.2.1 26 0 (nI S &&& (((1 : Int32) <<< (nI i &&& 31)) ^^^ (-1))).toNatClampNeg = 0 then f_Sets_findOpenSets_b142 0 0 (nI S) 1 (nI i) (nI S) (xsA h 26 0 B) else if xib (nI i) 8 then (if (h.2.2.2.1 30 0 (nI i).toNatClampNeg &&& h.1 6 2 0) &&& ((nI S &&& (((1 : Int32) <<< (nI i &&& 31)) ^^^ (-1))) ^^^ (-1)) = 0 then f_Sets_findOpenSets_b143 0 0 (nI S) 1 (nI i) 1 (nI S) (xsA h 26 0 B) else f_Sets_findOpenSets_b142 0 0 (nI S) 1 (nI i) (nI S) (xsA h 26 0 B)) else none) else none) else xup (f_Sets_findOpenSets_b150 0 0 (nI S) (xsA h 26 0 B))) else none) := by
        have r30 : (xsA h 26 0 B).2.2.2.1 30 0 = h.2.2.2.1 30 0 := rdA_n (by decide)
        rw [← r30]
        rfl
      have b143 : ∀ w, (w = 0 ∨ w = 1) → f_Sets_findOpenSets_b143 0 0 (nI S) 1 (nI i) w (nI S) (xsA h 26 0 B) = some (Sum.inl (nI (i + 1), xsA h 26 0 (upd B S w))) := fun w hw => by
        unfold f_Sets_findOpenSets_b143
        rw [if_pos xS, if_pos hw, cS, rdA_s, xsA_2, xlet_e, xlet_e, nI_1]
      have b142 : f_Sets_findOpenSets_b142 0 0 (nI S) 1 (nI i) (nI S) (xsA h 26 0 B) = some (Sum.inl (nI (i + 1), xsA h 26 0 (upd B S 0))) := b143 0 (Or.inl rfl)
      have rS : (xsA h 26 0 B).2.2.2.1 26 0 (nI S).toNatClampNeg = B S := by rw [rdA_s, cS]
      rw [if_neg (show ¬ (8 : Int32) ≤ nI i from nI_ge (b := 8) hi (by decide)), if_neg (by decide), if_pos xS, rS, bS, c_has hS hi, Option.bind_some, b142, b143 1 (Or.inr rfl), sel_e, fin 0] at s0
      by_cases q : ∃ j, j < i ∧ S.testBit j = true ∧ opS I U T M0 D (S - 2 ^ j) ∧ ∀ y, (U j).testBit y = true → I.testBit y = true → (S - 2 ^ j).testBit y = true
      · right
        refine ⟨_, by show f_Sets_findOpenSets_s63 0 0 (nI S) 1 (nI i) (xsA h 26 0 B) = _; rw [s0, ind_t q, if_neg (by decide)], B, rfl, l, ?_⟩
        rw [bS, ind_t q, ind_t]
        obtain ⟨j, hj, a, b, c⟩ := q
        exact (opS_r hI hS h0).mpr ⟨hs, hm, j, by omega, a, b, c⟩
      · left
        rw [ind_f q, if_pos rfl] at s0
        -- the test of i
        obtain ⟨w, ew, hw⟩ : ∃ w, f_Sets_findOpenSets_s63 0 0 (nI S) 1 (nI i) (xsA h 26 0 B) = some (Sum.inl (nI (i + 1), xsA h 26 0 (upd B S w))) ∧ w = ind (S.testBit i = true ∧ opS I U T M0 D (S - 2 ^ i) ∧ ∀ y, (U i).testBit y = true → I.testBit y = true → (S - 2 ^ i).testBit y = true) := by
          by_cases q1 : S.testBit i = true
          · obtain ⟨c1, c2, c3⟩ := clr_or S hS i hi q1
            have iI : I.testBit i = true := by
              rw [← hs, Nat.testBit_and, Bool.and_eq_true] at q1
              exact q1.2
            have r2 : (xsA h 26 0 B).2.2.2.1 26 0 (nI (S - 2 ^ i)).toNatClampNeg = ind (opS I U T M0 D (S - 2 ^ i)) := by
              rw [rdA_s, nI_clamp (by omega), l _ c3, hO _ c3]
            have ei : h.2.2.2.1 30 0 (nI i).toNatClampNeg = nI (U i) := by rw [nI_clamp (by omega)]; exact (hU i (hIn i iI)).1
            rw [if_pos q1, sb_clr S hS i hi q1, if_pos (xibN (by omega) (by decide)), r2, if_pos (xibN hi (by decide)), ei, e62] at s0
            by_cases q2 : opS I U T M0 D (S - 2 ^ i)
            · rw [ind_t q2, if_neg (by decide)] at s0
              by_cases q3 : ∀ y, (U i).testBit y = true → I.testBit y = true → (S - 2 ^ i).testBit y = true
              · exact ⟨1, by rw [s0, if_pos ((un_e hI (by omega) (hU i (hIn i iI)).2).mpr q3)], (ind_t ⟨q1, q2, q3⟩).symm⟩
              · exact ⟨0, by rw [s0, if_neg (fun z => q3 ((un_e hI (by omega) (hU i (hIn i iI)).2).mp z))], (ind_f (fun z => q3 z.2.2)).symm⟩
            · rw [ind_f q2, if_pos rfl] at s0
              exact ⟨0, s0, (ind_f (fun z => q2 z.2.1)).symm⟩
          · rw [if_neg q1] at s0
            exact ⟨0, s0, (ind_f (fun z => q1 z.1)).symm⟩
        refine ⟨_, ew, rfl, upd B S w, rfl, fun S' h' => by rw [pk_un (by omega)]; exact l S' h', ?_⟩
        rw [pk_us, hw]
        apply ind_c
        constructor
        · rintro ⟨a, b, c⟩
          exact ⟨i, by omega, a, b, c⟩
        · rintro ⟨j, hj, a, b, c⟩
          by_cases z : j = i
          · subst z; exact ⟨a, b, c⟩
          · exact absurd ⟨j, by omega, a, b, c⟩ q
    · rintro ⟨q1, g⟩ ⟨e1, B, eg, l, bS⟩
      have e1 : q1 = nI 8 := e1
      have eg : g = xsA h 26 0 B := eg
      subst e1
      subst eg
      refine ⟨_, ?_, B, rfl, l, ?_⟩
      · show f_Sets_findOpenSets_s63 0 0 (nI S) 1 (nI 8) (xsA h 26 0 B) = _
        unfold f_Sets_findOpenSets_s63
        rw [if_pos (by decide)]
        exact fin 0 B
      · rw [bS]
        apply ind_c
        rw [opS_r hI hS h0]
        exact ⟨fun ⟨j, hj, a, b, c⟩ => ⟨hs, hm, j, hj, a, b, c⟩, fun ⟨_, _, j, hj, a, b, c⟩ => ⟨j, hj, a, b, c⟩⟩
  · refine ⟨O, ?_, fun _ _ => rfl, ?_⟩
    · apply whl_en
      show f_Sets_findOpenSets_s63 0 0 (nI S) 0 0 (xsA h 26 0 O) = _
      unfold f_Sets_findOpenSets_s63
      rw [if_neg (by decide), if_pos rfl]
      exact fin 0 O
    · rw [hOS, ind_f]
      intro z
      rw [opS_r hI hS h0] at z
      exact hn ⟨z.1, z.2.1⟩
theorem c_open {h : xH} {n I M0 D : Nat} {U T E : Nat → Nat} (hx : oCx h n I U T E M0 D) : ∃ O, f_Sets_findOpenSets 0 0 h = some (xsA h 26 0 O) ∧ ∀ S, S < 256 → O S = ind (opS I U T M0 D S) := by
  obtain ⟨h8, hI, hIn, e62, e60, e81, hM, hD, hU, hW⟩ := id hx
  have key := whl_cntE (step := fun s : Int32 × xH => f_Sets_findOpenSets_s2 0 0 s.1 s.2) 256 (fun k s => s.1 = nI k ∧ ∃ O, s.2 = xsA h 26 0 O ∧ ∀ S, S < k → O S = ind (opS I U T M0 D S)) (fun x => ∃ O, x = xsA h 26 0 O ∧ ∀ S, S < 256 → O S = ind (opS I U T M0 D S)) ?_ ?_ (0, h) ⟨nI_0.symm, h.2.2.2.1 26 0, xsA_id.symm, fun S hS => absurd hS (by omega)⟩
  · obtain ⟨x, e, O, rfl, q⟩ := key
    exact ⟨O, e, q⟩
  · rintro k hk ⟨q1, g⟩ ⟨e1, O, eg, l⟩
    have e1 : q1 = nI k := e1
    have eg : g = xsA h 26 0 O := eg
    subst e1
    subst eg
    left
    have xk : xib (nI k) 256 := xibN hk (by decide)
    have ck : (nI k).toNatClampNeg = k := nI_clamp (by omega)
    have b23 : ∀ w, (w = 0 ∨ w = 1) → f_Sets_findOpenSets_b23 0 0 (nI k) w (nI k) (xsA h 26 0 O) = (if nI k &&& (nI I ^^^ (-1)) = 0 then (if nI D < nI M0 + h.2.2.2.1 24 0 k then f_Sets_findOpenSets_l63 0 0 (nI k) 0 0 (xsA h 26 0 (upd O k w)) else f_Sets_findOpenSets_l63 0 0 (nI k) 1 0 (xsA h 26 0 (upd O k w))) else f_Sets_findOpenSets_l63 0 0 (nI k) 0 0 (xsA h 26 0 (upd O k w))) := fun w hw => by
      have s0 : f_Sets_findOpenSets_b23 0 0 (nI k) w (nI k) (xsA h 26 0 O) = (if xib (nI k) 256 then (if w = 0 ∨ w = 1 then xlet (xsA (xsA h 26 0 O) 26 0 (upd ((xsA h 26 0 O).2.2.2.1 26 0) (nI k).toNatClampNeg w)) (fun h4 => if nI k &&& (h4.1 6 2 0 ^^^ (-1)) = 0 then (if xib (nI k) 256 then (if h4.1 8 1 0 < h4.1 6 0 0 + h4.2.2.2.1 24 0 (nI k).toNatClampNeg then f_Sets_findOpenSets_l63 0 0 (nI k) 0 0 h4 else f_Sets_findOpenSets_l63 0 0 (nI k) 1 0 h4) else none) else f_Sets_findOpenSets_l63 0 0 (nI k) 0 0 h4) else none) else none) := rfl
      have eu : xsA (xsA h 26 0 O) 26 0 (upd ((xsA h 26 0 O).2.2.2.1 26 0) (nI k).toNatClampNeg w) = xsA h 26 0 (upd O k w) := by rw [rdA_s, xsA_2, ck]
      have r24 : (xsA h 26 0 (upd O k w)).2.2.2.1 24 0 (nI k).toNatClampNeg = h.2.2.2.1 24 0 k := by rw [rdA_n (by decide), ck]
      rw [s0, if_pos xk, if_pos hw, eu, xlet_e, r24, if_pos xk]
      show (if nI k &&& (h.1 6 2 0 ^^^ (-1)) = 0 then (if h.1 8 1 0 < h.1 6 0 0 + h.2.2.2.1 24 0 k then _ else _) else _) = _
      rw [e62, e81, e60]
    by_cases k0 : k = 0
    · subst k0
      have l63 : ∀ v4, f_Sets_findOpenSets_l63 0 0 (nI 0) v4 0 (xsA h 26 0 (upd O 0 1)) = some (Sum.inl (nI 1, xsA h 26 0 (upd O 0 1))) := fun v4 => by
        apply whl_en
        show f_Sets_findOpenSets_s63 0 0 (nI 0) v4 0 (xsA h 26 0 (upd O 0 1)) = _
        have r26 : (xsA h 26 0 (upd O 0 1)).2.2.2.1 26 0 (nI 0).toNatClampNeg = 1 := by rw [rdA_s, nI_clamp (by omega), pk_us]
        unfold f_Sets_findOpenSets_s63 f_Sets_findOpenSets_b150
        rw [if_neg (by decide)]
        by_cases q : v4 = 0
        · rw [if_pos q, xlet_e, nI_1]; rfl
        · rw [if_neg q, if_pos xk, r26, if_neg (by decide), xlet_e, nI_1]; rfl
      refine ⟨(nI 1, xsA h 26 0 (upd O 0 1)), ?_, rfl, upd O 0 1, rfl, fun S hS => ?_⟩
      · show f_Sets_findOpenSets_s2 0 0 (nI 0) (xsA h 26 0 O) = _
        unfold f_Sets_findOpenSets_s2
        rw [if_neg (by decide), if_pos nI_0, b23 1 (Or.inr rfl), l63, l63]
        split
        · split
          · rfl
          · rfl
        · rfl
      · have : S = 0 := by omega
        subst this
        rw [pk_us, ind_t opS_0]
    · have hO' : ∀ S', S' < k → (upd O k 0) S' = ind (opS I U T M0 D S') := fun S' h' => by rw [pk_un (by omega)]; exact l S' h'
      have run : ∃ v4, f_Sets_findOpenSets_s2 0 0 (nI k) (xsA h 26 0 O) = f_Sets_findOpenSets_l63 0 0 (nI k) v4 0 (xsA h 26 0 (upd O k 0)) ∧ ((v4 = 1 ∧ k &&& I = k ∧ M0 + wt T k ≤ D) ∨ (v4 = 0 ∧ ¬ (k &&& I = k ∧ M0 + wt T k ≤ D))) := by
        have s2 : f_Sets_findOpenSets_s2 0 0 (nI k) (xsA h 26 0 O) = f_Sets_findOpenSets_b23 0 0 (nI k) 0 (nI k) (xsA h 26 0 O) := by
          unfold f_Sets_findOpenSets_s2
          rw [if_neg (show ¬ (256 : Int32) ≤ nI k from nI_ge (b := 256) hk (by decide)), if_neg (nI_ne0 (by omega) (by omega))]
        rw [s2, b23 0 (Or.inl rfl)]
        by_cases q : k &&& I = k
        · obtain ⟨-, w2, -, w4⟩ := hW k hk q
          rw [if_pos ((sb_sub k hk I hI).mpr q), w2, nI_add]
          by_cases q2 : M0 + wt T k ≤ D
          · exact ⟨1, if_neg (nI_nlt q2 (by omega)), Or.inl ⟨rfl, q, q2⟩⟩
          · exact ⟨0, if_pos (nI_lt (by omega) (by omega)), Or.inr ⟨rfl, fun z => q2 z.2⟩⟩
        · exact ⟨0, if_neg (fun z => q ((sb_sub k hk I hI).mp z)), Or.inr ⟨rfl, fun z => q z.1⟩⟩
      obtain ⟨v4, er, hv⟩ := run
      obtain ⟨O', eo, l1, l2⟩ := c_open63 (O := upd O k 0) hx hk k0 hO' v4 hv pk_us
      refine ⟨(nI (k + 1), xsA h 26 0 O'), by show f_Sets_findOpenSets_s2 0 0 (nI k) (xsA h 26 0 O) = _; rw [er, eo], rfl, O', rfl, fun S hS => ?_⟩
      by_cases z : S = k
      · subst z; exact l2
      · rw [l1 S (by omega)]
        exact hO' S (by omega)
  · rintro ⟨q1, g⟩ ⟨e1, O, eg, l⟩
    have e1 : q1 = nI 256 := e1
    have eg : g = xsA h 26 0 O := eg
    subst e1
    subst eg
    refine ⟨xsA h 26 0 O, ?_, O, rfl, l⟩
    show f_Sets_findOpenSets_s2 0 0 (nI 256) (xsA h 26 0 O) = _
    unfold f_Sets_findOpenSets_s2
    rw [if_pos (by decide)]
