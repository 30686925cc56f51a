/-! PURE: orders of lifting; the reference finds the best -/
def bsR (g : xH) (d t l : Nat) (r : Nat → Nat) : Prop := g.1 12 29 0 = nI d ∧ g.1 12 30 0 = nI t ∧ g.1 12 28 0 = nI l ∧ ∀ i, i < l → g.2.2.2.1 60 0 i = nI (r i)
def cpA (A B : Nat → Int32) (j : Nat) : Nat → Int32 := fun i => if i < j then B i else A i
theorem cpA_s {A B : Nat → Int32} {j : Nat} : upd (cpA A B j) j (B j) = cpA A B (j + 1) := by
  funext i
  unfold cpA
  by_cases a : i = j
  · subst a; rw [pk_us, if_pos (by omega)]
  · rw [pk_un a]
    by_cases b : i < j
    · rw [if_pos b, if_pos (by omega)]
    · rw [if_neg b, if_neg (by omega)]
theorem m_weighs59 {h : xH} {m : Nat} (hm : m ≤ 8) : f_M_weighsRow_l59 (nI m) 0 h = some (xsA h 60 0 (cpA (h.2.2.2.1 60 0) (h.2.2.2.1 59 0) m)) := by
  have := whl_cnt (step := fun s : Int32 × xH => f_M_weighsRow_s59 (nI m) s.1 s.2) m (fun j => (nI j, xsA h 60 0 (cpA (h.2.2.2.1 60 0) (h.2.2.2.1 59 0) j))) (xsA h 60 0 (cpA (h.2.2.2.1 60 0) (h.2.2.2.1 59 0) m)) (fun j hj => ?_) ?_
  · rw [show cpA (h.2.2.2.1 60 0) (h.2.2.2.1 59 0) 0 = h.2.2.2.1 60 0 from rfl, xsA_id] at this
    exact this
  · show f_M_weighsRow_s59 (nI m) (nI j) (xsA h 60 0 (cpA (h.2.2.2.1 60 0) (h.2.2.2.1 59 0) j)) = _
    unfold f_M_weighsRow_s59
    rw [if_neg (nI_ge hj (by omega)), if_pos (xibN (by omega) (by decide)), if_pos (xibN (by omega) (by decide)), nI_clamp (by omega), rdA_s, rdA_n (by decide), xsA_2, cpA_s, xlet_e, xlet_e, nI_1]
  · show f_M_weighsRow_s59 (nI m) (nI m) (xsA h 60 0 (cpA (h.2.2.2.1 60 0) (h.2.2.2.1 59 0) m)) = _
    unfold f_M_weighsRow_s59
    rw [if_pos (Int32.le_refl _)]
theorem m_weighs {h0 g : xH} {n k d t l : Nat} {V : Nat → Int32} {E T p r : Nat → Nat} (ho : orM h0 g V) (hr : rwR g p (k + 1)) (hd : dR p (k + 1)) (hp : ∀ i, i < k + 1 → p i < n) (hE : ∀ k, k < n → V (52 + k) = nI (E k) ∧ E k ≤ 30) (hT : ∀ k, k < n → V (44 + k) = nI (T k) ∧ T k ≤ 40) (hb : bsR g d t l r) (d30 : d < 2 ^ 30) (t30 : t < 2 ^ 30) : ∃ g2 d1 t1 l1 r1, f_M_weighsRow (nI (k + 1)) g = some g2 ∧ ((¬ bt (rN E p (k + 1)) (rN T p (k + 1)) d t ∧ d1 = d ∧ t1 = t ∧ l1 = l ∧ r1 = r) ∨ (bt (rN E p (k + 1)) (rN T p (k + 1)) d t ∧ d1 = rN E p (k + 1) ∧ t1 = rN T p (k + 1) ∧ l1 = k + 1 ∧ r1 = p)) ∧ bsR g2 d1 t1 l1 r1 ∧ d1 < 2 ^ 30 ∧ t1 < 2 ^ 30 ∧ orM h0 g2 V ∧ g2.2.2.2.1 59 0 = g.2.2.2.1 59 0 := by
  have k8 := dR_8 hd
  have m52 : ∀ i, i < k + 1 → mS g (52 + p i) = nI (E (p i)) := fun i hi => by rw [ho.2.2.2 _ (by omega)]; exact (hE _ (hp i hi)).1
  have m44 : ∀ i, i < k + 1 → mS g (44 + p i) = nI (T (p i)) := fun i hi => by rw [ho.2.2.2 _ (by omega)]; exact (hT _ (hp i hi)).1
  have r1 := m_rowSum (h := g) (k := k + 1) (a := 52) (c := 52) (f := E) rfl (by decide) (by omega) hr hd.1 m52
  have r2 := m_rowSum (h := g) (k := k + 1) (a := 44) (c := 44) (f := T) rfl (by decide) (by omega) hr hd.1 m44
  have sub : ∀ y, (sP p (k + 1)).testBit y = true → y < n := fun y z => by
    obtain ⟨j, hj, e⟩ := sP_bit.mp z
    rw [← e]
    exact hp j hj
  have bE : rN E p (k + 1) ≤ 240 := by rw [rN_wt hd]; exact wt_le (M := 30) (fun y z => (hE y (sub y z)).2)
  have bT : rN T p (k + 1) ≤ 320 := by rw [rN_wt hd]; exact wt_le (M := 40) (fun y z => (hT y (sub y z)).2)
  obtain ⟨b1, b2, b3, b4⟩ := id hb
  have s0 : f_M_weighsRow (nI (k + 1)) g = (f_M_rowSum (nI (k + 1)) 52 g).bind (fun r1 => (f_M_rowSum (nI (k + 1)) 44 g).bind (fun r3 => if r1 < g.1 12 29 0 then some g else if r1 = g.1 12 29 0 then (if r3 < g.1 12 30 0 then f_M_weighsRow_b41 (nI (k + 1)) r1 r3 g else some g) else f_M_weighsRow_b41 (nI (k + 1)) r1 r3 g)) := rfl
  rw [r1, Option.bind_some, r2, Option.bind_some, b1, b2] at s0
  obtain ⟨g1, eg1⟩ : ∃ g1, g1 = xsI (xsI (xsI g 12 29 0 (nI (rN E p (k + 1)))) 12 30 0 (nI (rN T p (k + 1)))) 12 28 0 (nI (k + 1)) := ⟨_, rfl⟩
  obtain ⟨g2, eg2⟩ : ∃ g2, g2 = xsA g1 60 0 (cpA (g1.2.2.2.1 60 0) (g1.2.2.2.1 59 0) (k + 1)) := ⟨_, rfl⟩
  have b41 : f_M_weighsRow_b41 (nI (k + 1)) (nI (rN E p (k + 1))) (nI (rN T p (k + 1))) g = some g2 := by
    show f_M_weighsRow_l59 (nI (k + 1)) 0 (xsI (xsI (xsI g 12 29 0 (nI (rN E p (k + 1)))) 12 30 0 (nI (rN T p (k + 1)))) 12 28 0 (nI (k + 1))) = _
    rw [← eg1, m_weighs59 k8, eg2]
  have gA1 : g1.2.2.2.1 = g.2.2.2.1 := by rw [eg1]; rfl
  have bs2 : bsR g2 (rN E p (k + 1)) (rN T p (k + 1)) (k + 1) p := by
    refine ⟨?_, ?_, ?_, fun i hi => ?_⟩
    · rw [eg2]; show g1.1 12 29 0 = _; rw [eg1, rdI (by decide), rdI (by decide), rdI_s]
    · rw [eg2]; show g1.1 12 30 0 = _; rw [eg1, rdI (by decide), rdI_s]
    · rw [eg2]; show g1.1 12 28 0 = _; rw [eg1, rdI_s]
    · rw [eg2, rdA_s, gA1]
      show (if i < k + 1 then g.2.2.2.1 59 0 i else _) = _
      rw [if_pos hi]
      exact hr i hi
  have o2 : orM h0 g2 V := by
    refine ⟨fun c' k' i' q => ?_, fun f' i' q => ?_, fun i hi => ?_, fun u hu => ?_⟩
    · rw [eg2]; show g1.1 c' k' i' = _; rw [eg1, rdI (by omega), rdI (by omega), rdI (by omega)]; exact ho.1 c' k' i' q
    · rw [eg2, rdA_n (by omega), gA1]; exact ho.2.1 f' i' q
    · rw [eg2, rdA_n (by omega), gA1]; exact ho.2.2.1 i hi
    · show g2.2.2.2.1 56 0 u = _
      rw [eg2, rdA_n (by omega), gA1]; exact ho.2.2.2 u hu
  have e59 : g2.2.2.2.1 59 0 = g.2.2.2.1 59 0 := by rw [eg2, rdA_n (by decide), gA1]
  by_cases q : bt (rN E p (k + 1)) (rN T p (k + 1)) d t
  · refine ⟨g2, _, _, _, _, ?_, Or.inr ⟨q, rfl, rfl, rfl, rfl⟩, bs2, by omega, by omega, o2, e59⟩
    rcases q with q | ⟨q, q2⟩
    · rw [s0, if_neg (nI_nlt (by omega) (by omega)), if_neg (fun z => by have := (nI_eq (by omega) (by omega)).mp z; omega), b41]
    · rw [s0, if_neg (nI_nlt (by omega) (by omega)), if_pos (by rw [q]), if_pos (nI_lt q2 (by omega)), b41]
  · refine ⟨g, d, t, l, r, ?_, Or.inl ⟨q, rfl, rfl, rfl, rfl⟩, hb, d30, t30, ho, rfl⟩
    unfold bt at q
    rcases Nat.lt_trichotomy (rN E p (k + 1)) d with z | z | z
    · rw [s0, if_pos (nI_lt z (by omega))]
    · rw [s0, if_neg (nI_nlt (by omega) (by omega)), if_pos (by rw [z]), if_neg (nI_nlt (by omega) (by omega))]
    · omega
theorem m_order28 {h0 : xH} {n I M0 D : Nat} {V : Nat → Int32} {U T E : Nat → Nat} (hw : wOk V n) (hI : I = bs (vIn V) n) (hU : ∀ k, k < n → V (36 + k) = nI (U k) ∧ U k < 256) (hT : ∀ k, k < n → V (44 + k) = nI (T k) ∧ T k ≤ 40) (hE : ∀ k, k < n → V (52 + k) = nI (E k) ∧ E k ≤ 30) (h1 : V 1 = nI D) (hD : D ≤ 300) (h10 : V 10 = nI M0) (hM : M0 ≤ 9999) : ∀ f k, k + f = 9 → ∀ e x, x + e = n → ∀ (p : Nat → Nat) (g : xH) (d t l : Nat) (r : Nat → Nat), orM h0 g V → oP I U T M0 D p k → rwR g p k → g.2.2.2.1 59 0 k = nI x - 1 → bsR g d t l r → d < 2 ^ 30 → t < 2 ^ 30 → ∃ (g' : xH) (d' t' l' : Nat) (r' : Nat → Nat), f_M_findsOrder_l28 (nI k) g = f_M_findsOrder_l28 (nI k - 1) g' ∧ orM h0 g' V ∧ rwR g' p k ∧ bsR g' d' t' l' r' ∧ d' < 2 ^ 30 ∧ t' < 2 ^ 30 ∧ spO I U T E M0 D p k x d t l r d' t' l' r' := by
  have h8 := hw.2.1
  have hI8 : I < 256 := by rw [hI]; exact bs_lt8 _ h8
  have hIn : ∀ o, I.testBit o = true → o < n ∧ vIn V o = true := by
    intro o z
    rw [hI, bs_bit, Bool.and_eq_true, decide_eq_true_iff] at z
    exact z
  intro f
  induction f with
  | zero =>
    intro k hk e x hx p g d t l r ho hc
    have := dR_8 (oP_d hI8 hc)
    omega
  | succ f ihf =>
    intro k hk e
    induction e with
    | zero =>
      intro x hx p g d t l r ho hc hr hk59 hb d30 t30
      have hx : x = n := by omega
      subst hx
      obtain ⟨A1, hA1⟩ : ∃ A1, A1 = upd (g.2.2.2.1 59 0) k (nI x) := ⟨_, rfl⟩
      have ek : (nI k).toNatClampNeg = k := nI_clamp (by omega)
      have ea : upd (g.2.2.2.1 59 0) (nI k).toNatClampNeg (g.2.2.2.1 59 0 (nI k).toNatClampNeg + 1) = A1 := by
        rw [ek, hA1, hk59, show nI x - 1 + 1 = nI x from Int32.sub_add_cancel _ _]
      have m3 : (xsA g 59 0 A1).2.2.2.1 56 0 ((3 : Int32)).toNatClampNeg = nI x := by
        rw [rdA_n (by decide)]
        show mS g 3 = _
        rw [ho.2.2.2 3 (by omega)]
        exact hw.1
      have cx : ¬ (xsA g 59 0 A1).2.2.2.1 59 0 (nI k).toNatClampNeg < (xsA g 59 0 A1).2.2.2.1 56 0 ((3 : Int32)).toNatClampNeg := by
        rw [m3, rdA_s, ek, hA1, pk_us]
        exact nI_nlt (Nat.le_refl _) (by omega)
      refine ⟨xsA g 59 0 A1, d, t, l, r, ?_, ⟨ho.1, fun f' i' q => by rw [rdA_n (by omega)]; exact ho.2.1 f' i' q, fun i hi => by rw [rdA_n (by omega)]; exact ho.2.2.1 i hi, fun u hu => by show (xsA g 59 0 A1).2.2.2.1 56 0 u = _; rw [rdA_n (by omega)]; exact ho.2.2.2 u hu⟩, fun i hi => by rw [rdA_s, hA1, pk_un (by omega)]; exact hr i hi, ⟨hb.1, hb.2.1, hb.2.2.1, fun i hi => by rw [rdA_n (by omega)]; exact hb.2.2.2 i hi⟩, d30, t30, spO_0 (fun o z => (hIn o z).1)⟩
      apply whl_st
      show f_M_findsOrder_s28 (nI k) g = _
      unfold f_M_findsOrder_s28
      rw [if_neg (nI_pos (by omega)), if_pos (xibN (by omega) (by decide)), if_pos (xibN (by omega) (by decide)), ea, xlet_e, if_pos (xibN (by omega) (by decide)), if_neg cx, xlet_e]
      rw [show nI k + (-1) = nI k - 1 from (Int32.sub_eq_add_neg _ _).symm]
    | succ e ihe =>
      intro x hx p g d t l r ho hc hr hk59 hb d30 t30
      have hxn : x < n := by omega
      obtain ⟨p1, hp1⟩ : ∃ p1 : Nat → Nat, p1 = fun i => if i = k then x else p i := ⟨_, rfl⟩
      have p1k : p1 k = x := by rw [hp1]; exact if_pos rfl
      have p1o : ∀ i, i < k → p1 i = p i := fun i hi => by rw [hp1]; exact if_neg (by omega)
      obtain ⟨A1, hA1⟩ : ∃ A1, A1 = upd (g.2.2.2.1 59 0) k (nI x) := ⟨_, rfl⟩
      obtain ⟨g1, eg1⟩ : ∃ g1, g1 = xsA g 59 0 A1 := ⟨_, rfl⟩
      have ek : (nI k).toNatClampNeg = k := nI_clamp (by omega)
      have ea : upd (g.2.2.2.1 59 0) (nI k).toNatClampNeg (g.2.2.2.1 59 0 (nI k).toNatClampNeg + 1) = A1 := by
        rw [ek, hA1, hk59, show nI x - 1 + 1 = nI x from Int32.sub_add_cancel _ _]
      have o1 : orM h0 g1 V := by
        rw [eg1]
        exact ⟨ho.1, fun f' i' q => by rw [rdA_n (by omega)]; exact ho.2.1 f' i' q, fun i hi => by rw [rdA_n (by omega)]; exact ho.2.2.1 i hi, fun u hu => by show (xsA g 59 0 A1).2.2.2.1 56 0 u = _; rw [rdA_n (by omega)]; exact ho.2.2.2 u hu⟩
      have rw1 : rwR g1 p1 (k + 1) := fun i hi => by
        rw [eg1, rdA_s, hA1]
        by_cases z : i = k
        · rw [z, pk_us, p1k]
        · rw [pk_un z, p1o i (by omega)]
          exact hr i (by omega)
      have p1n : ∀ i, i < k + 1 → p1 i < n := fun i hi => by
        by_cases z : i = k
        · rw [z, p1k]; exact hxn
        · rw [p1o i (by omega)]
          exact (hIn _ (hc i (by omega)).1).1
      have b1 : bsR g1 d t l r := by
        rw [eg1]
        exact ⟨hb.1, hb.2.1, hb.2.2.1, fun i hi => by rw [rdA_n (by omega)]; exact hb.2.2.2 i hi⟩
      obtain ⟨b, g2, eb, hbo, o2, i2, e59, e60⟩ := m_areLifted (k := k) hw o1 (by omega) rw1 p1n hI hU hT h1 hD h10 hM
      have rw2 : rwR g2 p1 (k + 1) := fun i hi => by rw [e59]; exact rw1 i hi
      have b2 : bsR g2 d t l r := ⟨by rw [i2]; exact b1.1, by rw [i2]; exact b1.2.1, by rw [i2]; exact b1.2.2.1, fun i hi => by rw [e60]; exact b1.2.2.2 i hi⟩
      have m3 : g1.2.2.2.1 56 0 ((3 : Int32)).toNatClampNeg = nI n := (o1.2.2.2 3 (by omega)).trans hw.1
      have cx : g1.2.2.2.1 59 0 (nI k).toNatClampNeg < g1.2.2.2.1 56 0 ((3 : Int32)).toNatClampNeg := by
        rw [m3, ek, rw1 k (by omega), p1k]
        exact nI_lt hxn (by omega)
      have run : f_M_findsOrder_s28 (nI k) g = (if (if b = true then (1 : Int32) else 0) = 0 then some (Sum.inl (nI k, g2)) else (f_M_weighsRow (nI (k + 1)) g2).bind (fun h24 => if xib (nI (k + 1)) 9 then some (Sum.inl (nI (k + 1), xsA h24 59 0 (upd (h24.2.2.2.1 59 0) (nI (k + 1)).toNatClampNeg (-1)))) else none)) := by
        unfold f_M_findsOrder_s28
        rw [if_neg (nI_pos (by omega)), if_pos (xibN (by omega) (by decide)), if_pos (xibN (by omega) (by decide)), ea, xlet_e, ← eg1, if_pos (xibN (by omega) (by decide)), if_pos cx, nI_1, eb, Option.bind_some]
        rfl
      cases b with
      | false =>
        have nl : ¬ oP I U T M0 D p1 (k + 1) := fun z => by
          have := hbo.mpr z
          cases this
        obtain ⟨g', d', t', l', r', e', o', r'', b', d3, t3, s'⟩ := ihe (x + 1) (by omega) p g2 d t l r o2 hc (fun i hi => by rw [rw2 i (by omega), p1o i hi]) (by rw [rw2 k (by omega), p1k, nI_pred]) b2 d30 t30
        refine ⟨g', d', t', l', r', ?_, o', r'', b', d3, t3, spO_n (fun q m z y => nl ?_) s'⟩
        · rw [← e']
          apply whl_st
          show f_M_findsOrder_s28 (nI k) g = _
          rw [run, sel_e, if_neg (by decide)]
        · exact oP_c (fun i hi => by
            by_cases w : i = k
            · rw [w, p1k, y]
            · rw [p1o i (by omega), z.2.1 i (by omega)]) (oP_le z.2.2.1 z.1)
      | true =>
        have c1 := hbo.mp rfl
        have d1 := oP_d hI8 c1
        have k8 := dR_8 d1
        obtain ⟨g3, dd1, tt1, ll1, rr1, e3, h1', b3, d31, t31, o3, e593⟩ := m_weighs o2 rw2 d1 p1n hE hT b2 d30 t30
        obtain ⟨g4, eg4⟩ : ∃ g4, g4 = xsA g3 59 0 (upd (g3.2.2.2.1 59 0) (k + 1) (-1)) := ⟨_, rfl⟩
        have run2 : f_M_findsOrder_s28 (nI k) g = some (Sum.inl (nI (k + 1), g4)) := by
          rw [run, sel_e, if_pos rfl, e3, Option.bind_some, if_pos (xibN (by omega) (by decide)), nI_clamp (by omega), ← eg4]
        have o4 : orM h0 g4 V := by
          rw [eg4]
          exact ⟨o3.1, fun f' i' q => by rw [rdA_n (by omega)]; exact o3.2.1 f' i' q, fun i hi => by rw [rdA_n (by omega)]; exact o3.2.2.1 i hi, fun u hu => by show (xsA g3 59 0 _).2.2.2.1 56 0 u = _; rw [rdA_n (by omega)]; exact o3.2.2.2 u hu⟩
        have rw4 : rwR g4 p1 (k + 1) := fun i hi => by rw [eg4, rdA_s, pk_un (by omega), e593]; exact rw2 i hi
        have b4 : bsR g4 dd1 tt1 ll1 rr1 := by
          rw [eg4]
          exact ⟨b3.1, b3.2.1, b3.2.2.1, fun i hi => by rw [rdA_n (by omega)]; exact b3.2.2.2 i hi⟩
        obtain ⟨g5, d2, t2, l2, r2, e5, o5, rw5, b5, d32, t32, s2⟩ := ihf (k + 1) (by omega) n 0 (by omega) p1 g4 dd1 tt1 ll1 rr1 o4 c1 rw4 (by rw [eg4, rdA_s, pk_us]; decide) b4 d31 t31
        rw [nI_pred] at e5
        obtain ⟨g6, d3, t3, l3, r3, e6, o6, rw6, b6, d33, t33, s3⟩ := ihe (x + 1) (by omega) p g5 d2 t2 l2 r2 o5 hc (fun i hi => by rw [rw5 i (by omega), p1o i hi]) (by rw [rw5 k (by omega), p1k, nI_pred]) b5 d32 t32
        refine ⟨g6, d3, t3, l3, r3, ?_, o6, rw6, b6, d33, t33, spO_v p1o p1k c1 h1' s2 s3⟩
        rw [← e6, ← e5]
        exact whl_st run2
/-- the best row, the first of those that are as good -/
def isO (I : Nat) (U T E : Nat → Nat) (M0 D d t l : Nat) (r : Nat → Nat) : Prop := (∀ q m, oP I U T M0 D q m → ¬ bt (rN E q m) (rN T q m) d t) ∧ oP I U T M0 D r l ∧ rN E r l = d ∧ rN T r l = t ∧ ∀ i, i < l → ¬ (rN E r i = d ∧ rN T r i = t) ∧ ∀ q m, i < m → (∀ j, j < i → q j = r j) → q i < r i → oP I U T M0 D q m → ¬ (rN E q m = d ∧ rN T q m = t)
theorem isO_l {I M0 D d t l l' : Nat} {U T E r r' : Nat → Nat} (a : isO I U T E M0 D d t l r) (b : isO I U T E M0 D d t l' r') : ∀ i, i ≤ l → i ≤ l' ∧ ∀ j, j < i → r j = r' j := by
  intro i
  induction i with
  | zero => exact fun _ => ⟨Nat.zero_le _, fun j hj => absurd hj (by omega)⟩
  | succ i ih =>
    intro hi
    obtain ⟨h1, h2⟩ := ih (by omega)
    have il : i < l' := by
      by_cases z : i = l'
      · subst z
        refine absurd ?_ (a.2.2.2.2 i (by omega)).1
        rw [rN_congr h2, rN_congr h2]
        exact ⟨b.2.2.1, b.2.2.2.1⟩
      · omega
    refine ⟨by omega, fun j hj => ?_⟩
    by_cases z : j = i
    · subst z
      rcases Nat.lt_trichotomy (r j) (r' j) with q | q | q
      · exact absurd ⟨a.2.2.1, a.2.2.2.1⟩ ((b.2.2.2.2 j il).2 r l (by omega) h2 q a.2.1)
      · exact q
      · exact absurd ⟨b.2.2.1, b.2.2.2.1⟩ ((a.2.2.2.2 j (by omega)).2 r' l' il (fun k hk => (h2 k hk).symm) q b.2.1)
    · exact h2 j (by omega)
theorem isO_u {I M0 D d t l d' t' l' : Nat} {U T E r r' : Nat → Nat} (a : isO I U T E M0 D d t l r) (b : isO I U T E M0 D d' t' l' r') : d = d' ∧ t = t' ∧ l = l' ∧ ∀ i, i < l → r i = r' i := by
  have h1 := a.1 r' l' b.2.1
  have h2 := b.1 r l a.2.1
  rw [b.2.2.1, b.2.2.2.1] at h1
  rw [a.2.2.1, a.2.2.2.1] at h2
  unfold bt at h1 h2
  have hd : d = d' := by omega
  have ht : t = t' := by omega
  subst hd
  subst ht
  have x1 := isO_l a b l (Nat.le_refl _)
  have x2 := isO_l b a l' (Nat.le_refl _)
  exact ⟨rfl, rfl, by omega, x1.2⟩
theorem m_findsOrder {h : xH} {n I M0 D : Nat} {U T E : Nat → Nat} (hw : wOk (mS h) n) (hI : I = bs (vIn (mS h)) n) (hU : ∀ k, k < n → mS h (36 + k) = nI (U k) ∧ U k < 256) (hT : ∀ k, k < n → mS h (44 + k) = nI (T k) ∧ T k ≤ 40) (hE : ∀ k, k < n → mS h (52 + k) = nI (E k) ∧ E k ≤ 30) (h1 : mS h 1 = nI D) (hD : D ≤ 300) (h10 : mS h 10 = nI M0) (hM : M0 ≤ 9999) : ∃ h2 d t l r, f_M_findsOrder h = some h2 ∧ sameJ h h2 ∧ bsR h2 d t l r ∧ isO I U T E M0 D d t l r := by
  obtain ⟨g0, eg0⟩ : ∃ g0, g0 = xsI (xsI (xsI h 12 29 0 0) 12 30 0 0) 12 28 0 0 := ⟨_, rfl⟩
  obtain ⟨g1, e1, w1⟩ := m_keepW (h := g0)
  obtain ⟨g2, eg2⟩ : ∃ g2, g2 = xsA g1 59 0 (upd (g1.2.2.2.1 59 0) 0 (-1)) := ⟨_, rfl⟩
  have s0 : mS g0 = mS h := by rw [eg0]; rfl
  have run0 : f_M_findsOrder h = f_M_findsOrder_l28 0 g2 := by
    show (f_M_keeps (xsI (xsI (xsI h 12 29 0 0) 12 30 0 0) 12 28 0 0)).bind (fun h6 => f_M_findsOrder_l28 0 (xsA h6 59 0 (upd (h6.2.2.2.1 59 0) 0 (-1)))) = _
    rw [← eg0, e1, Option.bind_some, eg2]
  have g1I : ∀ c k i, ¬ (c = 12 ∧ k = 18) → g1.1 c k i = g0.1 c k i := w1.1
  have o2 : orM h g2 (mS h) := by
    refine ⟨fun c k i q => ?_, fun f i q => ?_, fun i hi => ?_, fun u hu => ?_⟩
    · rw [eg2]
      show g1.1 c k i = _
      by_cases z : c = 12 ∧ k = 18
      · have ek := m_keeps (h := g0)
        rw [e1] at ek
        rw [Option.some.inj ek]
        show g0.1 c k i = _
        rw [eg0, rdI (by omega), rdI (by omega), rdI (by omega)]
      · rw [g1I c k i z, eg0, rdI (by omega), rdI (by omega), rdI (by omega)]
    · rw [eg2, rdA_n (by omega), w1.2.1 f i (by omega) (by omega), eg0]; rfl
    · rw [eg2, rdA_n (by omega), w1.2.2.1 i hi, s0]
    · show g2.2.2.2.1 56 0 u = _
      rw [eg2, rdA_n (by omega)]
      show mS g1 u = _
      rw [w1.2.2.2, s0]
  have b2 : bsR g2 0 0 0 (fun _ => 0) := by
    refine ⟨?_, ?_, ?_, fun i hi => absurd hi (by omega)⟩
    · rw [eg2]; show g1.1 12 29 0 = _; rw [g1I 12 29 0 (by omega), eg0, rdI (by decide), rdI (by decide), rdI_s]; rfl
    · rw [eg2]; show g1.1 12 30 0 = _; rw [g1I 12 30 0 (by omega), eg0, rdI (by decide), rdI_s]; rfl
    · rw [eg2]; show g1.1 12 28 0 = _; rw [g1I 12 28 0 (by omega), eg0, rdI_s]; rfl
  obtain ⟨g3, d, t, l, r, e3, o3, -, b3, -, -, s3⟩ := m_order28 (h0 := h) hw hI hU hT hE h1 hD h10 hM 9 0 (by decide) n 0 (by omega) (fun _ => 0) g2 0 0 0 (fun _ => 0) o2 (fun i hi => absurd hi (by omega)) (fun i hi => absurd hi (by omega)) (by rw [eg2, rdA_s, pk_us]; decide) b2 (by decide) (by decide)
  have lb : f_M_laysBack g3 = some (xsA g3 56 0 (mS h)) := m_laysBack o3.2.2.1 o3.2.2.2
  have ex : ∀ q m, 0 < m → oP I U T M0 D q m → exO I U T M0 D (fun _ => 0) 0 0 q m := fun q m hm hc => ⟨hm, fun i hi => absurd hi (by omega), hc, Nat.zero_le _⟩
  refine ⟨xsA g3 56 0 (mS h), d, t, l, r, ?_, ⟨fun c k i q => ?_, fun f i q => ?_⟩, ⟨b3.1, b3.2.1, b3.2.2.1, fun i hi => by rw [rdA_n (by decide)]; exact b3.2.2.2 i hi⟩, fun q m hc => ?_, ?_⟩
  · rw [run0]
    refine Eq.trans e3 ?_
    apply whl_en
    show f_M_findsOrder_s28 (nI 0 - 1) g3 = _
    unfold f_M_findsOrder_s28 f_M_findsOrder_b94
    rw [if_pos (by decide), lb]
    rfl
  · exact o3.1 c k i (by unfold jF at q; omega)
  · by_cases z : f = 56 ∧ i = 0
    · rw [z.1, z.2, rdA_s]
    · rw [rdA_n z]
      exact o3.2.1 f i (by unfold jG at q; omega)
  · by_cases z : m = 0
    · subst z
      show ¬ bt 0 0 d t
      rcases s3.2 with ⟨a, b, -⟩ | ⟨a, -⟩
      · rw [a, b]; unfold bt; omega
      · unfold bt at *; omega
    · exact s3.1 q m (ex q m (by omega) hc)
  · rcases s3.2 with ⟨a, b, c, e⟩ | ⟨a, b, c, e, f⟩
    · subst c
      exact ⟨fun i hi => absurd hi (by omega), by rw [a]; rfl, by rw [b]; rfl, fun i hi => absurd hi (by omega)⟩
    · refine ⟨b.2.2.1, c, e, fun i hi => ⟨?_, fun q m h1 h2 h3 h4 => (f i (Nat.zero_le _) hi).2 q m h1 h2 h3 (fun _ => Nat.zero_le _) h4⟩⟩
      by_cases z : i = 0
      · subst z
        rintro ⟨y1, y2⟩
        have y1 : 0 = d := y1
        have y2 : 0 = t := y2
        unfold bt at a
        omega
      · exact (f i (Nat.zero_le _) hi).1 (by omega)
