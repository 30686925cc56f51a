/-! PURE: orders of lifting; both answer alike -/
theorem c_lay30 {h : xH} {n I M0 D d t S : Nat} {U T E : Nat → Nat} (v3 : Int32) (hx : oBx h n I U T E M0 D d t) (hS : S < 256) (hG : ∀ S, S < 256 → h.2.2.2.1 27 0 S = ind (gdS I U T E M0 D d t S)) (hs : ∃ s, s < 8 ∧ ldP I U S s ∧ gdS I U T E M0 D d t (S ||| 2 ^ s)) : ∃ s, s < 8 ∧ ldP I U S s ∧ gdS I U T E M0 D d t (S ||| 2 ^ s) ∧ (∀ s', s' < s → ¬ (ldP I U S s' ∧ gdS I U T E M0 D d t (S ||| 2 ^ s'))) ∧ f_Sets_layOutRow_l30 0 (nI S) v3 (-1) 7 h = f_Sets_layOutRow_b56 0 (nI S) v3 (nI s) h := by
  have go : ∀ k, k ≤ 8 → ∃ v4, f_Sets_layOutRow_l30 0 (nI S) v3 (-1) 7 h = f_Sets_layOutRow_l30 0 (nI S) v3 v4 (nI (8 - k) - 1) h ∧ ((v4 = -1 ∧ ∀ s, 8 - k ≤ s → s < 8 → ¬ (ldP I U S s ∧ gdS I U T E M0 D d t (S ||| 2 ^ s))) ∨ ∃ s, 8 - k ≤ s ∧ s < 8 ∧ v4 = nI s ∧ (ldP I U S s ∧ gdS I U T E M0 D d t (S ||| 2 ^ s)) ∧ ∀ s', 8 - k ≤ s' → s' < s → ¬ (ldP I U S s' ∧ gdS I U T E M0 D d t (S ||| 2 ^ s'))) := by
    intro k
    induction k with
    | zero => exact fun _ => ⟨-1, rfl, Or.inl ⟨rfl, fun s h1 h2 => by omega⟩⟩
    | succ k ih =>
      intro hk
      obtain ⟨v4, e, c⟩ := ih (by omega)
      have ev : nI (8 - k) - 1 = nI (8 - (k + 1)) := by
        rw [show 8 - k = (8 - (k + 1)) + 1 by omega]
        exact nI_pred _
      have s8 : 8 - (k + 1) < 8 := by omega
      have ld := c_leadsOn (s := 8 - (k + 1)) (P := gdS I U T E M0 D d t (S ||| 2 ^ (8 - (k + 1)))) hx.1 hS s8 (fun _ _ => hG _ (or_lt8 hS (two_lt _ s8)))
      have st : ∀ v4, f_Sets_layOutRow_s30 0 (nI S) v3 v4 (nI (8 - (k + 1))) h = (if ind (ldP I U S (8 - (k + 1)) ∧ gdS I U T E M0 D d t (S ||| 2 ^ (8 - (k + 1)))) = 0 then some (Sum.inl (v4, nI (8 - (k + 1)) - 1)) else some (Sum.inl (nI (8 - (k + 1)), nI (8 - (k + 1)) - 1))) := fun v4 => by
        unfold f_Sets_layOutRow_s30 f_Sets_layOutRow_b50
        rw [if_neg (nI_pos (by omega)), ld, Option.bind_some, xlet_e, xlet_e, show nI (8 - (k + 1)) + (-1) = nI (8 - (k + 1)) - 1 from (Int32.sub_eq_add_neg _ _).symm]
      rw [ev] at e
      by_cases q : ldP I U S (8 - (k + 1)) ∧ gdS I U T E M0 D d t (S ||| 2 ^ (8 - (k + 1)))
      · refine ⟨nI (8 - (k + 1)), ?_, Or.inr ⟨8 - (k + 1), Nat.le_refl _, s8, rfl, q, fun s' h1 h2 => by omega⟩⟩
        rw [e]
        apply whl_st
        show f_Sets_layOutRow_s30 0 (nI S) v3 v4 (nI (8 - (k + 1))) h = _
        rw [st, ind_t q, if_neg (by decide)]
      · refine ⟨v4, ?_, ?_⟩
        · rw [e]
          apply whl_st
          show f_Sets_layOutRow_s30 0 (nI S) v3 v4 (nI (8 - (k + 1))) h = _
          rw [st, ind_f q, if_pos rfl]
        · rcases c with ⟨c1, c2⟩ | ⟨s, c1, c2, c3, c4, c5⟩
          · refine Or.inl ⟨c1, fun s h1 h2 => ?_⟩
            by_cases z : s = 8 - (k + 1)
            · subst z; exact q
            · exact c2 s (by omega) h2
          · refine Or.inr ⟨s, by omega, c2, c3, c4, fun s' h1 h2 => ?_⟩
            by_cases z : s' = 8 - (k + 1)
            · subst z; exact q
            · exact c5 s' (by omega) h2
  obtain ⟨v4, e, c⟩ := go 8 (Nat.le_refl _)
  obtain ⟨s0, s08, l0, g0⟩ := hs
  rcases c with ⟨-, c2⟩ | ⟨s, c1, c2, c3, c4, c5⟩
  · exact absurd ⟨l0, g0⟩ (c2 s0 (by omega) s08)
  · refine ⟨s, c2, c4.1, c4.2, fun s' h' => c5 s' (by omega) h', ?_⟩
    rw [e, c3]
    unfold f_Sets_layOutRow_l30
    rw [whl_eq]
    show ((f_Sets_layOutRow_s30 0 (nI S) v3 (nI s) (nI 0 - 1) h).bind _) = _
    unfold f_Sets_layOutRow_s30
    rw [if_pos (by decide)]
    cases f_Sets_layOutRow_b56 0 (nI S) v3 (nI s) h with
    | none => rfl
    | some x => rfl
/-- what the search for orders changes -/
def orS (h h' : xH) : Prop := (∀ c k i, ¬ c = 5 → h'.1 c k i = h.1 c k i) ∧ ∀ f i, ¬ (i = 0 ∧ 22 ≤ f ∧ f ≤ 27) → h'.2.2.2.1 f i = h.2.2.2.1 f i
theorem c_layOut {h : xH} {n I M0 D d t : Nat} {U T E : Nat → Nat} (hx : oBx h n I U T E M0 D d t) (hG : ∀ S, S < 256 → h.2.2.2.1 27 0 S = ind (gdS I U T E M0 D d t S)) (hb : ∀ S, S < 256 → opS I U T M0 D S → ¬ bt (wt E S) (wt T S) d t) (hw : ∃ S, S < 256 ∧ opS I U T M0 D S ∧ wt E S = d ∧ wt T S = t) : ∃ h2 l r, f_Sets_layOutRow 0 h = some h2 ∧ orS h h2 ∧ h2.1 5 2 0 = nI d ∧ h2.1 5 3 0 = nI t ∧ h2.1 5 1 0 = nI l ∧ (∀ i, i < l → h2.2.2.2.1 22 0 i = nI (r i)) ∧ isO I U T E M0 D d t l r := by
  have hI := hx.1.2.1
  have all : ∀ q m, oP I U T M0 D q m → ¬ bt (rN E q m) (rN T q m) d t := fun q m hq => by
    have hd := oP_d hI hq
    rw [rN_wt hd, rN_wt hd]
    exact hb _ (sP_lt hd.1) ⟨q, m, hq, rfl⟩
  obtain ⟨g0, eg0⟩ : ∃ g0, g0 = xsI h 5 1 0 0 := ⟨_, rfl⟩
  have key := whl_cntE (step := fun s : Int32 × Int32 × xH => f_Sets_layOutRow_s9 0 s.1 s.2.1 s.2.2) 8 (fun i s => s.2.1 = nI i ∧ ∃ p, s.1 = nI (sP p i) ∧ oP I U T M0 D p i ∧ gdS I U T E M0 D d t (sP p i) ∧ (∀ j, j < i → ¬ (rN E p j = d ∧ rN T p j = t) ∧ ∀ q m, j < m → (∀ j', j' < j → q j' = p j') → q j < p j → oP I U T M0 D q m → ¬ (rN E q m = d ∧ rN T q m = t)) ∧ orS h s.2.2 ∧ s.2.2.1 5 2 0 = nI d ∧ s.2.2.1 5 3 0 = nI t ∧ s.2.2.1 5 1 0 = nI i ∧ (∀ j, j < i → s.2.2.2.2.2.1 22 0 j = nI (p j)) ∧ s.2.2.2.2.2.1 27 0 = h.2.2.2.1 27 0 ∧ oBx s.2.2 n I U T E M0 D d t) (fun h2 => ∃ l r, orS h h2 ∧ h2.1 5 2 0 = nI d ∧ h2.1 5 3 0 = nI t ∧ h2.1 5 1 0 = nI l ∧ (∀ i, i < l → h2.2.2.2.1 22 0 i = nI (r i)) ∧ isO I U T E M0 D d t l r) ?_ ?_ (0, 0, g0) ⟨nI_0.symm, fun _ => 0, nI_0.symm, fun i hi => absurd hi (by omega), ?_, fun j hj => absurd hj (by omega), ⟨fun c k i q => by rw [eg0, rdI (by omega)], fun f i _ => by rw [eg0]; rfl⟩, by rw [eg0, rdI (by decide)]; exact hx.2.2.1, by rw [eg0, rdI (by decide)]; exact hx.2.2.2.1, by rw [eg0, rdI_s]; rfl, fun j hj => absurd hj (by omega), by rw [eg0]; rfl, ?_⟩
  · obtain ⟨h2, e, l, r, q⟩ := key
    refine ⟨h2, l, r, ?_, q⟩
    show f_Sets_layOutRow_l9 0 0 0 (xsI h 5 1 0 0) = _
    rw [← eg0]
    exact e
  · rintro i hi ⟨q0, q1, g⟩ ⟨e1, p, e0, hp, hg, gr, f, e2, e3, e51, e22, e27, hxg⟩
    have e1 : q1 = nI i := e1
    have e0 : q0 = nI (sP p i) := e0
    subst e1
    subst e0
    have f : orS h g := f
    have e2 : g.1 5 2 0 = nI d := e2
    have e3 : g.1 5 3 0 = nI t := e3
    have e51 : g.1 5 1 0 = nI i := e51
    have e22 : ∀ j, j < i → g.2.2.2.1 22 0 j = nI (p j) := e22
    have e27 : g.2.2.2.1 27 0 = h.2.2.2.1 27 0 := e27
    have hxg : oBx g n I U T E M0 D d t := hxg
    have hd := oP_d hI hp
    have S8 : sP p i < 256 := sP_lt hd.1
    have s0 : f_Sets_layOutRow_s9 0 (nI (sP p i)) (nI i) g = (if ind (opS I U T M0 D (sP p i) ∧ wt E (sP p i) = d ∧ wt T (sP p i) = t) = 0 then f_Sets_layOutRow_l30 0 (nI (sP p i)) (nI i) (-1) 7 g else some (Sum.inr g)) := by
      unfold f_Sets_layOutRow_s9
      rw [if_neg (show ¬ (8 : Int32) ≤ nI i from nI_ge (b := 8) hi (by decide)), c_isBest hxg S8, Option.bind_some]
    by_cases q : wt E (sP p i) = d ∧ wt T (sP p i) = t
    · right
      refine ⟨g, ?_, i, p, f, e2, e3, e51, e22, all, hp, by rw [rN_wt hd]; exact q.1, by rw [rN_wt hd]; exact q.2, gr⟩
      show f_Sets_layOutRow_s9 0 (nI (sP p i)) (nI i) g = _
      rw [s0, ind_t ⟨⟨p, i, hp, rfl⟩, q⟩, if_neg (by decide)]
    · left
      have hs := ((gdS_r hI).mp hg).2.resolve_left q
      obtain ⟨s, s8, hl, hgs, lst, el⟩ := c_lay30 (nI i) hxg S8 (by rw [e27]; exact hG) hs
      obtain ⟨x1, x2⟩ := oP_s hI hp hl (opS_t hI (gdS_op hgs) (fun z => by
        have := (or_bit (S := sP p i) (j := s) (k := s)).mpr (Or.inr rfl)
        rw [z, Nat.zero_testBit] at this
        cases this))
      obtain ⟨p', hp'⟩ : ∃ p' : Nat → Nat, p' = fun j => if j = i then s else p j := ⟨_, rfl⟩
      rw [← hp'] at x1 x2
      have pi : p' i = s := by rw [hp']; exact if_pos rfl
      have po : ∀ j, j < i → p' j = p j := fun j hj => by rw [hp']; exact if_neg (by omega)
      obtain ⟨g1, eg1⟩ : ∃ g1, g1 = xsI (xsA g 22 0 (upd (g.2.2.2.1 22 0) i (nI s))) 5 1 0 (nI (i + 1)) := ⟨_, rfl⟩
      have run : f_Sets_layOutRow_s9 0 (nI (sP p i)) (nI i) g = some (Sum.inl (nI (sP p' (i + 1)), nI (i + 1), g1)) := by
        rw [s0, ind_f (fun z => q z.2), if_pos rfl, el]
        have b0 : f_Sets_layOutRow_b56 0 (nI (sP p i)) (nI i) (nI s) g = (if nI s = -1 then some (Sum.inr g) else if xib (g.1 5 1 0) 8 then some (Sum.inl (nI (sP p i) ||| ((1 : Int32) <<< (nI s &&& 31)), nI i + 1, xsI (xsA g 22 0 (upd (g.2.2.2.1 22 0) (g.1 5 1 0).toNatClampNeg (nI s))) 5 1 0 (g.1 5 1 0 + 1))) else none) := rfl
        rw [b0, if_neg (nI_nm1 (by omega)), e51, if_pos (xibN hi (by decide)), nI_clamp (by omega), nI_1, ← eg1, sb_pow s s8, sb_or _ S8 _ (two_lt s s8), x2]
      have I1 : ∀ c k i', ¬ (c = 5 ∧ k = 1) → g1.1 c k i' = g.1 c k i' := fun c k i' y => by rw [eg1, rdI y]; rfl
      have A1 : ∀ f' i', ¬ (f' = 22 ∧ i' = 0) → g1.2.2.2.1 f' i' = g.2.2.2.1 f' i' := fun f' i' y => by
        rw [eg1]
        exact rdA_n y
      refine ⟨_, run, rfl, p', rfl, x1, by rw [x2]; exact hgs, fun j hj => ?_, ⟨fun c k i' y => by show g1.1 c k i' = _; rw [I1 c k i' (by omega)]; exact f.1 c k i' y, fun f' i' y => by show g1.2.2.2.1 f' i' = _; rw [A1 f' i' (by omega)]; exact f.2 f' i' y⟩, by show g1.1 5 2 0 = _; rw [I1 5 2 0 (by decide)]; exact e2, by show g1.1 5 3 0 = _; rw [I1 5 3 0 (by decide)]; exact e3, by show g1.1 5 1 0 = _; rw [eg1, rdI_s], fun j hj => ?_, by show g1.2.2.2.1 27 0 = _; rw [A1 27 0 (by decide)]; exact e27, ?_⟩
      · by_cases z : j = i
        · subst z
          refine ⟨?_, fun q' m hm ag lt hq' y => ?_⟩
          · rw [rN_congr po, rN_congr po, rN_wt hd, rN_wt hd]
            exact q
          · rw [pi] at lt
            have ag' : ∀ j', j' < j → q' j' = p j' := fun j' h' => by rw [ag j' h', po j' h']
            have se : sP q' j = sP p j := sP_congr ag'
            obtain ⟨c1, c2, c3, c4⟩ := hq' j hm
            refine lst (q' j) lt ⟨⟨c1, by rw [← se]; exact sP_f c2, fun y' y1 y2 => by rw [← se]; exact sP_bit.mpr (c3 y' y1 y2)⟩, q', m, j + 1, by omega, hq', ?_, y.1, y.2⟩
            show sP q' j ||| 2 ^ q' j = _
            rw [se]
        · obtain ⟨r1, r2⟩ := gr j (by omega)
          refine ⟨?_, fun q' m hm ag lt hq' => r2 q' m hm (fun j' h' => by rw [ag j' h', po j' (by omega)]) (by rw [po j (by omega)] at lt; exact lt) hq'⟩
          rw [rN_congr (p := p') (q := p) (fun j' h' => po j' (by omega)), rN_congr (p := p') (q := p) (fun j' h' => po j' (by omega))]
          exact r1
      · show g1.2.2.2.1 22 0 j = _
        rw [eg1]
        show (xsA g 22 0 (upd (g.2.2.2.1 22 0) i (nI s))).2.2.2.1 22 0 j = _
        rw [rdA_s]
        by_cases z : j = i
        · rw [z, pk_us, pi]
        · rw [pk_un z, po j (by omega)]
          exact e22 j (by omega)
      · obtain ⟨b1, b2, b3, b4, b5⟩ := hxg
        exact ⟨oCx_of (h := g) (fun c k i' y => I1 c k i' (by omega)) (fun f' hf => A1 f' 0 (by omega)) b1, fun S hS => by show g1.2.2.2.1 26 0 S = _; rw [A1 26 0 (by decide)]; exact b2 S hS, by show g1.1 5 2 0 = _; rw [I1 5 2 0 (by decide)]; exact b3, by show g1.1 5 3 0 = _; rw [I1 5 3 0 (by decide)]; exact b4, b5⟩
  · rintro ⟨q0, q1, g⟩ ⟨e1, p, e0, hp, hg, gr, f, e2, e3, e51, e22, e27, hxg⟩
    have e1 : q1 = nI 8 := e1
    subst e1
    have hd := oP_d hI hp
    have q : wt E (sP p 8) = d ∧ wt T (sP p 8) = t := by
      rcases ((gdS_r hI).mp hg).2 with z | ⟨s, s8, hl, -⟩
      · exact z
      · have := pc_or _ (sP_lt hd.1) s s8 hl.2.1
        rw [sP_pc hd] at this
        have := pc_le _ (or_lt8 (sP_lt hd.1) (two_lt s s8))
        omega
    refine ⟨g, ?_, 8, p, f, e2, e3, e51, e22, all, hp, by rw [rN_wt hd]; exact q.1, by rw [rN_wt hd]; exact q.2, gr⟩
    show f_Sets_layOutRow_s9 0 q0 (nI 8) g = _
    unfold f_Sets_layOutRow_s9
    rw [if_pos (by decide)]
  · obtain ⟨S, hS, ⟨q, m, hq, rfl⟩, w1, w2⟩ := hw
    have hd := oP_d hI hq
    exact ⟨q, m, 0, Nat.zero_le _, hq, rfl, by rw [rN_wt hd]; exact w1, by rw [rN_wt hd]; exact w2⟩
  · obtain ⟨b1, b2, b3, b4, b5⟩ := hx
    exact ⟨oCx_of (h := h) (fun c k i' y => by rw [eg0, rdI (by omega)]) (fun f' hf => by rw [eg0]; rfl) b1, fun S hS => by rw [eg0]; exact b2 S hS, by rw [eg0, rdI (by decide)]; exact b3, by rw [eg0, rdI (by decide)]; exact b4, b5⟩
theorem c_findRow {h : xH} {n I M0 D : Nat} {U T E : Nat → Nat} (h8 : n ≤ 8) (hI : I < 256) (hIn : ∀ o, I.testBit o = true → o < n) (e62 : h.1 6 2 0 = nI I) (e60 : h.1 6 0 0 = nI M0) (e81 : h.1 8 1 0 = nI D) (hM : M0 ≤ 9999) (hD : D ≤ 300) (hU : ∀ k, k < n → h.2.2.2.1 30 0 k = nI (U k) ∧ U k < 256) (hT : ∀ k, k < n → h.2.2.2.1 32 0 k = nI (T k) ∧ T k ≤ 40) (hE : ∀ k, k < n → h.2.2.2.1 39 0 k = nI (E k) ∧ E k ≤ 30) : ∃ h2 d t l r, f_Sets_findRow 0 0 h = some h2 ∧ orS h h2 ∧ h2.1 5 2 0 = nI d ∧ h2.1 5 3 0 = nI t ∧ h2.1 5 1 0 = nI l ∧ (∀ i, i < l → h2.2.2.2.1 22 0 i = nI (r i)) ∧ isO I U T E M0 D d t l r := by
  obtain ⟨A, eA, hA⟩ := c_addUp_39_23 (h := h) (i0 := 0)
  obtain ⟨B, eB, hB⟩ := c_addUp_32_24 (h := xsA h 23 0 A) (i0 := 0)
  obtain ⟨g1, eg1⟩ : ∃ g1, g1 = xsA (xsA h 23 0 A) 24 0 B := ⟨_, rfl⟩
  have A1 : ∀ f i, ¬ (f = 23 ∧ i = 0) → ¬ (f = 24 ∧ i = 0) → g1.2.2.2.1 f i = h.2.2.2.1 f i := fun f i y1 y2 => by rw [eg1, rdA_n y2, rdA_n y1]
  have I1 : g1.1 = h.1 := by rw [eg1]; rfl
  have hx : oCx g1 n I U T E M0 D := by
    refine ⟨h8, hI, hIn, by rw [I1]; exact e62, by rw [I1]; exact e60, by rw [I1]; exact e81, hM, hD, by rw [A1 30 0 (by omega) (by omega)]; exact hU, fun S hS hs => ?_⟩
    have sub : ∀ k, S.testBit k = true → k < n := fun k z => by
      rw [← hs, Nat.testBit_and, Bool.and_eq_true] at z
      exact hIn k z.2
    refine ⟨?_, ?_, wt_le (M := 30) (fun k z => (hE k (sub k z)).2), wt_le (M := 40) (fun k z => (hT k (sub k z)).2)⟩
    · rw [eg1, rdA_n (by decide), rdA_s, hA S hS]
      exact isum_n (fun k _ z => (hE k (sub k z)).1)
    · rw [eg1, rdA_s, hB S hS]
      exact isum_n (fun k _ z => by rw [rdA_n (by omega)]; exact (hT k (sub k z)).1)
  obtain ⟨O, eO, hO⟩ := c_open hx
  have hx2 : oCx (xsA g1 26 0 O) n I U T E M0 D := oCx_of (h := g1) (fun _ _ _ _ => rfl) (fun f hf => rdA_n (show ¬ (f = 26 ∧ 0 = 0) by omega)) hx
  have ho2 : oTb (xsA g1 26 0 O) I U T M0 D := fun S hS => by rw [rdA_s]; exact hO S hS
  obtain ⟨g3, d, t, e3, i3, a3, f2, f3, d2, t3, nb, ws⟩ := c_best12 hx2 ho2
  have hx3 : oBx g3 n I U T E M0 D d t := ⟨oCx_of (h := xsA g1 26 0 O) i3 (fun f hf => by rw [a3]) hx2, fun S hS => by rw [a3]; exact ho2 S hS, f2, f3, d2, t3⟩
  obtain ⟨G, eG, hG⟩ := c_good hx3
  have hx4 : oBx (xsA g3 27 0 G) n I U T E M0 D d t := by
    obtain ⟨b1, b2, b3⟩ := hx3
    exact ⟨oCx_of (h := g3) (fun _ _ _ _ => rfl) (fun f hf => rdA_n (show ¬ (f = 27 ∧ 0 = 0) by omega)) b1, fun S hS => by rw [rdA_n (by decide)]; exact b2 S hS, b3⟩
  obtain ⟨g5, l, r, e5, f5, k2, k3, k1, kr, hO5⟩ := c_layOut hx4 (fun S hS => by rw [rdA_s]; exact hG S hS) nb ws
  refine ⟨g5, d, t, l, r, ?_, ⟨fun c k i q => ?_, fun f i q => ?_⟩, k2, k3, k1, kr, hO5⟩
  · show (f_Sets_addUp_39_23 0 h).bind (fun h3 => (f_Sets_addUp_32_24 0 h3).bind (fun h6 => (f_Sets_findOpenSets 0 0 h6).bind (fun h9 => (f_Sets_findBestSums h9).bind (fun h12 => (f_Sets_markGoodSets 0 h12).bind (fun h15 => (f_Sets_layOutRow 0 h15).bind (fun h18 => some h18)))))) = _
    rw [eA, Option.bind_some, eB, Option.bind_some, ← eg1, eO, Option.bind_some, e3, Option.bind_some, eG, Option.bind_some, e5]
    rfl
  · rw [f5.1 c k i q]
    show g3.1 c k i = _
    rw [i3 c k i q]
    show g1.1 c k i = _
    rw [I1]
  · rw [f5.2 f i q, rdA_n (by omega), a3, rdA_n (by omega), A1 f i (by omega) (by omega)]
variable {Q : xH → Nat → Prop}
theorem p_order (hQ : qOk Q) : lI_order (jII Q) := by
  intro a h hj
  obtain ⟨R, hR, r1, r2, ⟨htp, hfx, him, n, m, c, hsc, hpa⟩, hq⟩ := id hj
  obtain ⟨hv, ht, hst, -, -⟩ := id hsc
  obtain ⟨v0, -⟩ := id hv
  have hw := wOk_v hv
  have h8 := hw.2.1
  have rf : ∀ h1 : xH, f_M_order a h1 = (f_M_isTrug h1).bind (fun r1 => if r1 = 0 then some (-3, h1) else (f_M_in a.toInt64 (-2) 7 h1).bind (fun r4 => if r4 = 0 then some (-3, h1) else (f_M_findsOrder h1).bind (fun h9 => if (0 : Int32) ≤ a then (if h9.1 12 28 0 ≤ a then some (-2, h9) else if xib a 8 then some (h9.2.2.2.1 60 0 a.toNatClampNeg, h9) else none) else if a = -1 then some (h9.1 12 29 0, h9) else some (h9.1 12 30 0, h9)))) := fun _ => rfl
  have cl : f_B_order a h = (if h.1 8 0 0 = 0 then some (-3, h) else if a < -2 then some (-3, h) else if a < 8 then (f_Sets_findRow 0 0 h).bind (fun h6 => if a = -1 then some (h6.1 5 2 0, h6) else if a = -2 then some (h6.1 5 3 0, h6) else if h6.1 5 1 0 ≤ a then some (-2, h6) else if xib a 8 then some (h6.2.2.2.1 22 0 a.toNatClampNeg, h6) else none) else some (-3, h)) := rfl
  have ma : ∀ h1 : xH, f_M_in a.toInt64 (-2) 7 h1 = some (if a < -2 ∨ 7 < a then 0 else 1) := fun h1 => m_in a (-2) 7 (by decide) (by decide)
  by_cases z : mS h 0 = 0
  · exact ⟨-3, h, h, by rw [cl, ht.1, if_pos z], by rw [rf, m_isTrug v0, Option.bind_some, if_pos z], hj⟩
  by_cases a0 : a < -2
  · exact ⟨-3, h, h, by rw [cl, ht.1, if_neg z, if_pos a0], by rw [rf, m_isTrug v0, Option.bind_some, if_neg z, ma, if_pos (Or.inl a0)]; rfl, hj⟩
  have c78 : a < 8 ↔ ¬ 7 < a := by
    rw [Int32.lt_iff_toInt_lt, Int32.lt_iff_toInt_lt]
    show a.toInt < (8 : Int) ↔ ¬ (7 : Int) < a.toInt
    omega
  by_cases a1 : ¬ a < 8
  · refine ⟨-3, h, h, by rw [cl, ht.1, if_neg z, if_neg a0, if_neg a1], ?_, hj⟩
    rw [rf, m_isTrug v0, Option.bind_some, if_neg z, ma, if_pos (Or.inr (Decidable.not_not.mp (fun y => a1 (c78.mpr y))))]
    rfl
  have a1 : a < 8 := Decidable.not_not.mp a1
  obtain ⟨-, -, ⟨D, hD3, hD⟩, -, -, -, -, -, ⟨M0, hM, h10⟩, -, vk, -⟩ := id hv
  obtain ⟨T, hTd⟩ : ∃ T : Nat → Nat, T = fun k => (mS h (44 + k)).toNatClampNeg := ⟨_, rfl⟩
  obtain ⟨E, hEd⟩ : ∃ E : Nat → Nat, E = fun k => (mS h (52 + k)).toNatClampNeg := ⟨_, rfl⟩
  have hT : ∀ k, k < n → mS h (44 + k) = nI (T k) ∧ T k ≤ 40 := fun k hk => by
    obtain ⟨-, -, -, -, ⟨y, hy1, hy, ey⟩, -⟩ := vk k hk
    have : T k = y := by
      rw [hTd]
      show (mS h (44 + k)).toNatClampNeg = y
      rw [ey, nI_clamp (by omega)]
    rw [this]
    exact ⟨ey, hy⟩
  have hE : ∀ k, k < n → mS h (52 + k) = nI (E k) ∧ E k ≤ 30 := fun k hk => by
    obtain ⟨-, -, -, -, -, ⟨y, hy, ey⟩, -⟩ := vk k hk
    have : E k = y := by
      rw [hEd]
      show (mS h (52 + k)).toNatClampNeg = y
      rw [ey, nI_clamp (by omega)]
    rw [this]
    exact ⟨ey, hy⟩
  have I8 : bs (vIn (mS h)) n < 256 := bs_lt8 _ h8
  have In : ∀ o, (bs (vIn (mS h)) n).testBit o = true → o < n := fun o y => by
    rw [bs_bit, Bool.and_eq_true, decide_eq_true_iff] at y
    exact y.1
  obtain ⟨g1, d, t, l, r, eg1, f1, e2, e3, e51, e22, hO⟩ := c_findRow (h := h) (U := uV (mS h)) (T := T) (E := E) h8 I8 In hst.2.2.1 (hst.1.trans h10) (ht.2.1.trans hD) hM hD3 (fun k hk => by rw [(hst.2.2.2.2 k hk).2.1]; exact uV_e hv hk) (fun k hk => by rw [(hst.2.2.2.2 k hk).2.2.2]; exact hT k hk) (fun k hk => by rw [(ht.2.2.2.2.2.1 k hk).2.2.1]; exact hE k hk)
  have eS : mS g1 = mS h := f1.2 56 0 (by omega)
  obtain ⟨g2, d', t', l', r', eg2, j2, b2, hO'⟩ := m_findsOrder (h := g1) (n := n) (I := bs (vIn (mS h)) n) (M0 := M0) (D := D) (U := uV (mS h)) (T := T) (E := E) (by rw [eS]; exact hw) (by rw [eS]) (fun k hk => by rw [eS]; exact uV_e hv hk) (by rw [eS]; exact hT) (by rw [eS]; exact hE) (by rw [eS]; exact hD) hD3 (by rw [eS]; exact h10) hM
  obtain ⟨rfl, rfl, rfl, hrr⟩ := isO_u hO hO'
  have l8 : l ≤ 8 := dR_8 (oP_d I8 hO.2.1)
  have J : jII Q g2 := sameJ_jII hQ (sameJ_trans ⟨fun c' k' i' q => f1.1 c' k' i' (by unfold jF at q; omega), fun f' i' q => f1.2 f' i' (by unfold jG at q; omega)⟩ j2) hj
  have base : ∀ v : Int32, (if a = -1 then some (nI d, g1) else if a = -2 then some (nI t, g1) else if nI l ≤ a then some (-2, g1) else if xib a 8 then some (g1.2.2.2.1 22 0 a.toNatClampNeg, g1) else none) = some (v, g1) → (if (0 : Int32) ≤ a then (if nI l ≤ a then some (-2, g2) else if xib a 8 then some (g2.2.2.2.1 60 0 a.toNatClampNeg, g2) else none) else if a = -1 then some (nI d, g2) else some (nI t, g2)) = some (v, g2) → ∃ r h1 h2, f_B_order a h = some (r, h1) ∧ f_M_order a h1 = some (r, h2) ∧ jII Q h2 := by
    intro v x1 x2
    refine ⟨v, g1, g2, ?_, ?_, J⟩
    · rw [cl, ht.1, if_neg z, if_neg a0, if_pos a1, eg1, Option.bind_some, e2, e3, e51]
      exact x1
    · rw [rf, m_isTrug (by rw [eS]; exact v0), Option.bind_some, eS, if_neg z, ma, if_neg (fun y => y.elim a0 (c78.mp a1)), Option.bind_some, if_neg (by decide), eg2, Option.bind_some, b2.1, b2.2.1, b2.2.2.1]
      exact x2
  by_cases q1 : a = -1
  · refine base (nI d) (by rw [if_pos q1]) ?_
    rw [q1, if_neg (by decide), if_pos rfl]
  by_cases q2 : a = -2
  · refine base (nI t) (by rw [if_neg q1, if_pos q2]) ?_
    rw [if_neg (by rw [q2]; decide), if_neg q1]
  have p0 : ¬ a < 0 := by
    intro y
    rw [Int32.lt_iff_toInt_lt] at y a0
    have y : a.toInt < (0 : Int) := y
    have a0 : ¬ a.toInt < (-2 : Int) := a0
    rcases (show a.toInt = -1 ∨ a.toInt = -2 by omega) with w | w
    · exact q1 (Int32.toInt_inj.mp w)
    · exact q2 (Int32.toInt_inj.mp w)
  obtain ⟨k, hk8, rfl⟩ : ∃ k, k < 8 ∧ a = nI k := by
    rcases pk_ix a (n := 8) (by decide) with y | y | ⟨j, hj, e⟩
    · exact absurd y p0
    · exact absurd a1 (Int32.not_lt.mpr y)
    · exact ⟨j, hj, e⟩
  by_cases q3 : l ≤ k
  · exact base (-2) (by rw [if_neg q1, if_neg q2, if_pos (nI_le q3 (by omega))]) (by rw [if_pos (nI_pos' (by omega)), if_pos (nI_le q3 (by omega))])
  · refine base (nI (r k)) ?_ ?_
    · rw [if_neg q1, if_neg q2, if_neg (nI_ge (by omega) (by omega)), if_pos (xibN hk8 (by decide)), nI_clamp (by omega), e22 k (by omega)]
    · rw [if_pos (nI_pos' (by omega)), if_neg (nI_ge (by omega) (by omega)), if_pos (xibN hk8 (by decide)), nI_clamp (by omega), b2.2.2.2 k (by omega), hrr k (by omega)]
