/-! PURE: orders of lifting; the class lays out the row -/
/-- the open sets are told -/
def oTb (h : xH) (I : Nat) (U T : Nat → Nat) (M0 D : Nat) : Prop := ∀ S, S < 256 → h.2.2.2.1 26 0 S = ind (opS I U T M0 D S)
theorem c_best12 {h : xH} {n I M0 D : Nat} {U T E : Nat → Nat} (hx : oCx h n I U T E M0 D) (ho : oTb h I U T M0 D) : ∃ h2 d t, f_Sets_findBestSums h = some h2 ∧ (∀ c k i, ¬ c = 5 → h2.1 c k i = h.1 c k i) ∧ h2.2.2.2.1 = h.2.2.2.1 ∧ h2.1 5 2 0 = nI d ∧ h2.1 5 3 0 = nI t ∧ d ≤ 240 ∧ t ≤ 320 ∧ (∀ S, S < 256 → opS I U T M0 D S → ¬ bt (wt E S) (wt T S) d t) ∧ ∃ S, S < 256 ∧ opS I U T M0 D S ∧ wt E S = d ∧ wt T S = t := by
  obtain ⟨h8, hI, hIn, e62, e60, e81, hM, hD, hU, hW⟩ := id hx
  obtain ⟨g0, eg0⟩ : ∃ g0, g0 = xsI (xsI h 5 2 0 0) 5 3 0 0 := ⟨_, rfl⟩
  have key := whl_cntE (step := fun s : Int32 × xH => f_Sets_findBestSums_s12 s.1 s.2) 255 (fun k s => s.1 = nI (k + 1) ∧ (∀ c k i, ¬ c = 5 → s.2.1 c k i = h.1 c k i) ∧ s.2.2.2.2.1 = h.2.2.2.1 ∧ ∃ d t, s.2.1 5 2 0 = nI d ∧ s.2.1 5 3 0 = nI t ∧ d ≤ 240 ∧ t ≤ 320 ∧ (∀ S, S < k + 1 → opS I U T M0 D S → ¬ bt (wt E S) (wt T S) d t) ∧ ∃ S, S < 256 ∧ opS I U T M0 D S ∧ wt E S = d ∧ wt T S = t) (fun h2 => ∃ d t, (∀ c k i, ¬ c = 5 → h2.1 c k i = h.1 c k i) ∧ h2.2.2.2.1 = h.2.2.2.1 ∧ h2.1 5 2 0 = nI d ∧ h2.1 5 3 0 = nI t ∧ d ≤ 240 ∧ t ≤ 320 ∧ (∀ S, S < 256 → opS I U T M0 D S → ¬ bt (wt E S) (wt T S) d t) ∧ ∃ S, S < 256 ∧ opS I U T M0 D S ∧ wt E S = d ∧ wt T S = t) ?_ ?_ (1, g0) ⟨rfl, fun c k i q => by rw [eg0, rdI (by omega), rdI (by omega)], by rw [eg0]; rfl, 0, 0, by rw [eg0, rdI (by decide), rdI_s]; rfl, by rw [eg0, rdI_s]; rfl, by decide, by decide, fun S hS _ => ?_, 0, by decide, opS_0, wt_0, wt_0⟩
  · obtain ⟨h2, e, d, t, q⟩ := key
    refine ⟨h2, d, t, ?_, q⟩
    show f_Sets_findBestSums_l12 1 (xsI (xsI h 5 2 0 0) 5 3 0 0) = _
    rw [← eg0]
    exact e
  · rintro k hk ⟨q1, g⟩ ⟨e1, eI, eA, d, t, e2, e3, d2, t3, l, S0, hS0, o0, x0, y0⟩
    have e1 : q1 = nI (k + 1) := e1
    subst e1
    have eI : ∀ c k i, ¬ c = 5 → g.1 c k i = h.1 c k i := eI
    have eA : g.2.2.2.1 = h.2.2.2.1 := eA
    have e2 : g.1 5 2 0 = nI d := e2
    have e3 : g.1 5 3 0 = nI t := e3
    left
    have xk : xib (nI (k + 1)) 256 := xibN (by omega) (by decide)
    have ck : (nI (k + 1)).toNatClampNeg = k + 1 := nI_clamp (by omega)
    obtain ⟨g1, eg1⟩ : ∃ g1, g1 = xsI (xsI g 5 2 0 (h.2.2.2.1 23 0 (k + 1))) 5 3 0 (h.2.2.2.1 24 0 (k + 1)) := ⟨_, rfl⟩
    have b63 : ∀ t0 : Int32, f_Sets_findBestSums_b63 (nI (k + 1)) t0 g = (if ind (opS I U T M0 D (k + 1)) = 0 then some (Sum.inl (nI (k + 2), g)) else if t0 = 0 then some (Sum.inl (nI (k + 2), g)) else some (Sum.inl (nI (k + 2), g1))) := fun t0 => by
      have s0 : f_Sets_findBestSums_b63 (nI (k + 1)) t0 g = (if xib (nI (k + 1)) 256 then (if g.2.2.2.1 26 0 (nI (k + 1)).toNatClampNeg = 0 then some (Sum.inl (nI (k + 1) + 1, g)) else if t0 = 0 then some (Sum.inl (nI (k + 1) + 1, g)) else if xib (nI (k + 1)) 256 then (if xib (nI (k + 1)) 256 then some (Sum.inl (nI (k + 1) + 1, xsI (xsI g 5 2 0 (g.2.2.2.1 23 0 (nI (k + 1)).toNatClampNeg)) 5 3 0 (g.2.2.2.1 24 0 (nI (k + 1)).toNatClampNeg))) else none) else none) else none) := rfl
      have r26 : g.2.2.2.1 26 0 (nI (k + 1)).toNatClampNeg = ind (opS I U T M0 D (k + 1)) := by rw [eA, ck]; exact ho (k + 1) (by omega)
      have r23 : g.2.2.2.1 23 0 (nI (k + 1)).toNatClampNeg = h.2.2.2.1 23 0 (k + 1) := by rw [eA, ck]
      have r24 : g.2.2.2.1 24 0 (nI (k + 1)).toNatClampNeg = h.2.2.2.1 24 0 (k + 1) := by rw [eA, ck]
      rw [s0, if_pos xk, r26, r23, r24, if_pos xk, if_pos xk, nI_1, ← eg1]
    have s0 : f_Sets_findBestSums_s12 (nI (k + 1)) g = (if nI d < h.2.2.2.1 23 0 (k + 1) then f_Sets_findBestSums_b63 (nI (k + 1)) 1 g else if h.2.2.2.1 23 0 (k + 1) = nI d then (if nI t ≤ h.2.2.2.1 24 0 (k + 1) then f_Sets_findBestSums_b63 (nI (k + 1)) 0 g else f_Sets_findBestSums_b63 (nI (k + 1)) 1 g) else f_Sets_findBestSums_b63 (nI (k + 1)) 0 g) := by
      have s1 : f_Sets_findBestSums_s12 (nI (k + 1)) g = (if (256 : Int32) ≤ nI (k + 1) then some (Sum.inr g) else if xib (nI (k + 1)) 256 then (if g.1 5 2 0 < g.2.2.2.1 23 0 (nI (k + 1)).toNatClampNeg then f_Sets_findBestSums_b63 (nI (k + 1)) 1 g else if xib (nI (k + 1)) 256 then (if g.2.2.2.1 23 0 (nI (k + 1)).toNatClampNeg = g.1 5 2 0 then (if xib (nI (k + 1)) 256 then (if g.1 5 3 0 ≤ g.2.2.2.1 24 0 (nI (k + 1)).toNatClampNeg then f_Sets_findBestSums_b63 (nI (k + 1)) 0 g else f_Sets_findBestSums_b63 (nI (k + 1)) 1 g) else none) else f_Sets_findBestSums_b63 (nI (k + 1)) 0 g) else none) else none) := rfl
      have r23 : g.2.2.2.1 23 0 (nI (k + 1)).toNatClampNeg = h.2.2.2.1 23 0 (k + 1) := by rw [eA, ck]
      have r24 : g.2.2.2.1 24 0 (nI (k + 1)).toNatClampNeg = h.2.2.2.1 24 0 (k + 1) := by rw [eA, ck]
      rw [s1, if_neg (show ¬ (256 : Int32) ≤ nI (k + 1) from nI_ge (b := 256) (by omega) (by decide)), if_pos xk, if_pos xk, if_pos xk, r23, r24, e2, e3]
    by_cases q : opS I U T M0 D (k + 1)
    · obtain ⟨w1, w2, w3, w4⟩ := hW (k + 1) (by omega) (opS_sub q)
      have B1 : f_Sets_findBestSums_b63 (nI (k + 1)) 1 g = some (Sum.inl (nI (k + 2), g1)) := by rw [b63, ind_t q, if_neg (by decide), if_neg (by decide)]
      have B0 : f_Sets_findBestSums_b63 (nI (k + 1)) 0 g = some (Sum.inl (nI (k + 2), g)) := by rw [b63, ind_t q, if_neg (by decide), if_pos rfl]
      rw [B1, B0, w1, w2] at s0
      by_cases z : bt (wt E (k + 1)) (wt T (k + 1)) d t
      · refine ⟨(nI (k + 2), g1), ?_, rfl, fun c' k' i' y => by show g1.1 c' k' i' = _; rw [eg1, rdI (by omega), rdI (by omega)]; exact eI c' k' i' y, by show g1.2.2.2.1 = _; rw [eg1]; exact eA, wt E (k + 1), wt T (k + 1), by show g1.1 5 2 0 = _; rw [eg1, rdI (by decide), rdI_s, w1], by show g1.1 5 3 0 = _; rw [eg1, rdI_s, w2], w3, w4, fun S hS oS => ?_, k + 1, by omega, q, rfl, rfl⟩
        · show f_Sets_findBestSums_s12 (nI (k + 1)) g = _
          rw [s0]
          rcases z with z | ⟨z1, z2⟩
          · rw [if_pos (nI_lt z (by omega))]
          · rw [if_neg (nI_nlt (by omega) (by omega)), if_pos (by rw [z1]), if_neg (nI_ge z2 (by omega))]
        · by_cases y : S = k + 1
          · subst y
            unfold bt
            omega
          · exact bt_up (l S (by omega) oS) (Or.inr z)
      · refine ⟨(nI (k + 2), g), ?_, rfl, eI, eA, d, t, e2, e3, d2, t3, fun S hS oS => ?_, S0, hS0, o0, x0, y0⟩
        · show f_Sets_findBestSums_s12 (nI (k + 1)) g = _
          unfold bt at z
          rw [s0, if_neg (nI_nlt (by omega) (by omega))]
          by_cases y : wt E (k + 1) = d
          · rw [if_pos (by rw [y]), if_pos (nI_le (by omega) (by omega))]
          · rw [if_neg (fun w => y ((nI_eq (by omega) (by omega)).mp w))]
        · by_cases y : S = k + 1
          · subst y; exact z
          · exact l S (by omega) oS
    · have B1 : ∀ v, f_Sets_findBestSums_b63 (nI (k + 1)) v g = some (Sum.inl (nI (k + 2), g)) := fun v => by rw [b63, ind_f q, if_pos rfl]
      rw [B1, B1] at s0
      refine ⟨(nI (k + 2), g), ?_, rfl, eI, eA, d, t, e2, e3, d2, t3, fun S hS oS => ?_, S0, hS0, o0, x0, y0⟩
      · show f_Sets_findBestSums_s12 (nI (k + 1)) g = _
        rw [s0]
        split
        · rfl
        · split
          · split
            · rfl
            · rfl
          · rfl
      · by_cases y : S = k + 1
        · subst y; exact absurd oS q
        · exact l S (by omega) oS
  · rintro ⟨q1, g⟩ ⟨e1, eI, eA, d, t, r⟩
    have e1 : q1 = nI 256 := e1
    subst e1
    refine ⟨g, ?_, d, t, eI, eA, r⟩
    show f_Sets_findBestSums_s12 (nI 256) g = _
    unfold f_Sets_findBestSums_s12
    rw [if_pos (by decide)]
  · have : S = 0 := by omega
    subst this
    rw [wt_0, wt_0]
    unfold bt
    omega
/-- sums, open sets and the best are told -/
def oBx (h : xH) (n I : Nat) (U T E : Nat → Nat) (M0 D d t : Nat) : Prop := oCx h n I U T E M0 D ∧ oTb h I U T M0 D ∧ h.1 5 2 0 = nI d ∧ h.1 5 3 0 = nI t ∧ d ≤ 240 ∧ t ≤ 320
theorem c_isBest {h : xH} {n I M0 D d t S : Nat} {U T E : Nat → Nat} (hx : oBx h n I U T E M0 D d t) (hS : S < 256) : f_Sets_isBest (nI S) h = some (ind (opS I U T M0 D S ∧ wt E S = d ∧ wt T S = t)) := by
  obtain ⟨hc, ho, e2, e3, d2, t3⟩ := hx
  obtain ⟨h8, hI, hIn, e62, e60, e81, hM, hD, hU, hW⟩ := id hc
  have xS : xib (nI S) 256 := xibN hS (by decide)
  have cS : (nI S).toNatClampNeg = S := nI_clamp (by omega)
  have s0 : f_Sets_isBest (nI S) h = (if xib (nI S) 256 then (if h.2.2.2.1 26 0 (nI S).toNatClampNeg = 0 then some 0 else if xib (nI S) 256 then (if h.2.2.2.1 23 0 (nI S).toNatClampNeg = h.1 5 2 0 then (if xib (nI S) 256 then (if h.2.2.2.1 24 0 (nI S).toNatClampNeg = h.1 5 3 0 then some 1 else some 0) else none) else some 0) else none) else none) := rfl
  have r26 : h.2.2.2.1 26 0 (nI S).toNatClampNeg = ind (opS I U T M0 D S) := by rw [cS]; exact ho S hS
  rw [if_pos xS, r26, if_pos xS, if_pos xS, e2, e3] at s0
  by_cases q : opS I U T M0 D S
  · obtain ⟨w1, w2, w3, w4⟩ := hW S hS (opS_sub q)
    have r23 : h.2.2.2.1 23 0 (nI S).toNatClampNeg = nI (wt E S) := by rw [cS]; exact w1
    have r24 : h.2.2.2.1 24 0 (nI S).toNatClampNeg = nI (wt T S) := by rw [cS]; exact w2
    rw [ind_t q, if_neg (by decide), r23, r24] at s0
    rw [s0]
    by_cases z : wt E S = d
    · rw [if_pos (by rw [z])]
      by_cases y : wt T S = t
      · rw [if_pos (by rw [y]), ind_t ⟨q, z, y⟩]
      · rw [if_neg (fun w => y ((nI_eq (by omega) (by omega)).mp w)), ind_f (fun w => y w.2.2)]
    · rw [if_neg (fun w => z ((nI_eq (by omega) (by omega)).mp w)), ind_f (fun w => z w.2.1)]
  · rw [s0, ind_f q, if_pos rfl, ind_f (fun w => q w.1)]
theorem c_leadsOn {h : xH} {n I M0 D S s : Nat} {U T E : Nat → Nat} {P : Prop} (hx : oCx h n I U T E M0 D) (hS : S < 256) (hs : s < 8) (hP : I.testBit s = true → S.testBit s = false → h.2.2.2.1 27 0 (S ||| 2 ^ s) = ind P) : f_Sets_leadsOn 0 (nI S) (nI s) h = some (ind (ldP I U S s ∧ P)) := by
  obtain ⟨h8, hI, hIn, e62, e60, e81, hM, hD, hU, hW⟩ := id hx
  have s0 : f_Sets_leadsOn 0 (nI S) (nI s) h = (f_State_isIn 0 (nI s) h).bind (fun r1 => if r1 = 0 then some 0 else (f_Sets_has (nI S) (nI s) h).bind (fun r4 => if r4 = 0 then (if xib (nI s) 8 then (if (h.2.2.2.1 30 0 (nI s).toNatClampNeg &&& h.1 6 2 0) &&& (nI S ^^^ (-1)) = 0 then (if xib (nI S ||| ((1 : Int32) <<< (nI s &&& 31))) 256 then (if h.2.2.2.1 27 0 (nI S ||| ((1 : Int32) <<< (nI s &&& 31))).toNatClampNeg = 0 then some 0 else some 1) else none) else some 0) else none) else some 0)) := rfl
  have o8 : S ||| 2 ^ s < 256 := or_lt8 hS (two_lt s hs)
  have eo : nI S ||| ((1 : Int32) <<< (nI s &&& 31)) = nI (S ||| 2 ^ s) := by rw [sb_pow s hs, sb_or S hS _ (two_lt s hs)]
  rw [c_isIn8 hI e62 hs, Option.bind_some, sel_e, c_has hS hs, Option.bind_some, sel_e, if_pos (xibN hs (by decide)), eo, if_pos (xibN o8 (by decide)), e62] at s0
  rw [s0]
  by_cases q1 : I.testBit s = true
  · have us := hU s (hIn s q1)
    have ei : h.2.2.2.1 30 0 (nI s).toNatClampNeg = nI (U s) := by rw [nI_clamp (by omega)]; exact us.1
    rw [if_pos q1]
    by_cases q2 : S.testBit s = true
    · rw [if_pos q2, ind_f (fun z => by rw [z.1.2.1] at q2; cases q2)]
    · have q2' : S.testBit s = false := by
        cases hb : S.testBit s with
        | true => exact absurd hb q2
        | false => rfl
      have ep : h.2.2.2.1 27 0 (nI (S ||| 2 ^ s)).toNatClampNeg = ind P := by rw [nI_clamp (by omega)]; exact hP q1 q2'
      rw [if_neg q2, ei, ep]
      by_cases q3 : ∀ y, (U s).testBit y = true → I.testBit y = true → S.testBit y = true
      · rw [if_pos ((un_e hI hS us.2).mpr q3)]
        by_cases q4 : P
        · rw [ind_t q4, if_neg (by decide), ind_t ⟨⟨q1, q2', q3⟩, q4⟩]
        · rw [ind_f q4, if_pos rfl, ind_f (fun z => q4 z.2)]
      · rw [if_neg (fun z => q3 ((un_e hI hS us.2).mp z)), ind_f (fun z => q3 z.1.2.2)]
  · rw [if_neg q1, ind_f (fun z => q1 z.1.1)]
theorem or_gt : ∀ S, S < 256 → ∀ s, s < 8 → S.testBit s = false → S < S ||| 2 ^ s := by decide +kernel
theorem c_good21 {h : xH} {n I M0 D d t S : Nat} {U T E : Nat → Nat} {G : Nat → Int32} (hx : oBx h n I U T E M0 D d t) (hS : S < 256) (hG : ∀ S', S < S' → S' < 256 → G S' = ind (gdS I U T E M0 D d t S')) (hGS : G S = ind (opS I U T M0 D S ∧ wt E S = d ∧ wt T S = t)) : ∃ G', f_Sets_markGoodSets_l21 0 (nI S) 0 (xsA h 27 0 G) = some (Sum.inl (nI S + (-1), xsA h 27 0 G')) ∧ (∀ S', S < S' → S' < 256 → G' S' = G S') ∧ G' S = ind (gdS I U T E M0 D d t S) := by
  obtain ⟨hc, ho, e2, e3, d2, t3⟩ := id hx
  have hI := hc.2.1
  have xS : xib (nI S) 256 := xibN hS (by decide)
  have cS : (nI S).toNatClampNeg = S := nI_clamp (by omega)
  have key := whl_cntE (step := fun s : Int32 × xH => f_Sets_markGoodSets_s21 0 (nI S) s.1 s.2) 8 (fun i s => s.1 = nI i ∧ ∃ B, s.2 = xsA h 27 0 B ∧ (∀ S', S < S' → S' < 256 → B S' = G S') ∧ B S = ind (opS I U T M0 D S ∧ ((wt E S = d ∧ wt T S = t) ∨ ∃ s, s < i ∧ ldP I U S s ∧ gdS I U T E M0 D d t (S ||| 2 ^ s)))) (fun x => ∃ G', x = Sum.inl (nI S + (-1), xsA h 27 0 G') ∧ (∀ S', S < S' → S' < 256 → G' S' = G S') ∧ G' S = ind (gdS I U T E M0 D d t S)) ?_ ?_ (0, xsA h 27 0 G) ⟨nI_0.symm, G, rfl, fun _ _ _ => rfl, ?_⟩
  · obtain ⟨x, e, G', rfl, q⟩ := key
    exact ⟨G', e, q⟩
  · rintro i hi ⟨q1, g⟩ ⟨e1, B, eg, l, bS⟩
    have e1 : q1 = nI i := e1
    have eg : g = xsA h 27 0 B := eg
    subst e1
    subst eg
    have s0 : f_Sets_markGoodSets_s21 0 (nI S) (nI i) (xsA h 27 0 B) = (if (8 : Int32) ≤ nI i then some (Sum.inr (Sum.inl (nI S + (-1), xsA h 27 0 B))) else if xib (nI S) 256 then (if (xsA h 27 0 B).2.2.2.1 26 0 (nI S).toNatClampNeg = 0 then some (Sum.inr (Sum.inl (nI S + (-1), xsA h 27 0 B))) else if xib (nI S) 256 then (if (xsA h 27 0 B).2.2.2.1 27 0 (nI S).toNatClampNeg = 0 then (f_Sets_leadsOn 0 (nI S) (nI i) (xsA h 27 0 B)).bind (fun r13 => if xib (nI S) 256 then (if r13 = 0 ∨ r13 = 1 then some (Sum.inl (nI i + 1, xsA (xsA h 27 0 B) 27 0 (upd ((xsA h 27 0 B).2.2.2.1 27 0) (nI S).toNatClampNeg r13))) else none) else none) else some (Sum.inr (Sum.inl (nI S + (-1), xsA h 27 0 B)))) else none) else none) := rfl
    have r26 : (xsA h 27 0 B).2.2.2.1 26 0 (nI S).toNatClampNeg = ind (opS I U T M0 D S) := by rw [rdA_n (by decide), cS]; exact ho S hS
    have r27 : (xsA h 27 0 B).2.2.2.1 27 0 (nI S).toNatClampNeg = B S := by rw [rdA_s, cS]
    have hcB : oCx (xsA h 27 0 B) n I U T E M0 D := oCx_of (h := h) (fun _ _ _ _ => rfl) (fun f hf => rdA_n (show ¬ (f = 27 ∧ 0 = 0) by omega)) hc
    have ld := c_leadsOn (s := i) (P := gdS I U T E M0 D d t (S ||| 2 ^ i)) hcB hS hi (fun _ z => by
      have gt := or_gt S hS i hi z
      rw [rdA_s, l _ gt (or_lt8 hS (two_lt i hi))]
      exact hG _ gt (or_lt8 hS (two_lt i hi)))
    rw [if_neg (show ¬ (8 : Int32) ≤ nI i from nI_ge (b := 8) hi (by decide)), if_pos xS, r26, if_pos xS, r27, ld, Option.bind_some, if_pos xS, if_pos ind_01, rdA_s, cS, xsA_2, nI_1] at s0
    by_cases q : opS I U T M0 D S
    · rw [ind_t q, if_neg (by decide), bS] at s0
      by_cases q2 : (wt E S = d ∧ wt T S = t) ∨ ∃ s, s < i ∧ ldP I U S s ∧ gdS I U T E M0 D d t (S ||| 2 ^ s)
      · right
        refine ⟨_, by show f_Sets_markGoodSets_s21 0 (nI S) (nI i) (xsA h 27 0 B) = _; rw [s0, ind_t ⟨q, q2⟩, if_neg (by decide)], B, rfl, l, ?_⟩
        rw [bS, ind_t ⟨q, q2⟩, ind_t]
        exact (gdS_r hI).mpr ⟨q, q2.imp id (fun ⟨s, a, b⟩ => ⟨s, by omega, b⟩)⟩
      · left
        rw [ind_f (fun z => q2 z.2), if_pos rfl] at s0
        refine ⟨_, s0, rfl, _, rfl, fun S' h1 h2 => by rw [pk_un (by omega)]; exact l S' h1 h2, ?_⟩
        rw [pk_us]
        apply ind_c
        constructor
        · intro z
          exact ⟨q, Or.inr ⟨i, by omega, z⟩⟩
        · rintro ⟨-, z | ⟨s, a, b⟩⟩
          · exact absurd (Or.inl z) q2
          · by_cases y : s = i
            · subst y; exact b
            · exact absurd (Or.inr ⟨s, by omega, b⟩) q2
    · right
      refine ⟨_, by show f_Sets_markGoodSets_s21 0 (nI S) (nI i) (xsA h 27 0 B) = _; rw [s0, ind_f q, if_pos rfl], B, rfl, l, ?_⟩
      rw [bS, ind_f (fun z => q z.1), ind_f (fun z => q (gdS_op z))]
  · rintro ⟨q1, g⟩ ⟨e1, B, eg, l, bS⟩
    have e1 : q1 = nI 8 := e1
    have eg : g = xsA h 27 0 B := eg
    subst e1
    subst eg
    refine ⟨_, ?_, B, rfl, l, ?_⟩
    · show f_Sets_markGoodSets_s21 0 (nI S) (nI 8) (xsA h 27 0 B) = _
      unfold f_Sets_markGoodSets_s21
      rw [if_pos (by decide)]
      rfl
    · rw [bS]
      exact ind_c (gdS_r hI).symm
  · rw [hGS]
    apply ind_c
    exact ⟨fun z => ⟨z.1, Or.inl z.2⟩, fun z => ⟨z.1, z.2.resolve_right (fun ⟨s, a, _⟩ => absurd a (by omega))⟩⟩
theorem c_good {h : xH} {n I M0 D d t : Nat} {U T E : Nat → Nat} (hx : oBx h n I U T E M0 D d t) : ∃ G, f_Sets_markGoodSets 0 h = some (xsA h 27 0 G) ∧ ∀ S, S < 256 → G S = ind (gdS I U T E M0 D d t S) := by
  have key := whl_cntE (step := fun s : Int32 × xH => f_Sets_markGoodSets_s4 0 s.1 s.2) 256 (fun k s => (k ≤ 255 → s.1 = nI (255 - k)) ∧ (k = 256 → s.1 = -1) ∧ ∃ G, s.2 = xsA h 27 0 G ∧ ∀ S, 256 ≤ S + k → S < 256 → G S = ind (gdS I U T E M0 D d t S)) (fun x => ∃ G, x = xsA h 27 0 G ∧ ∀ S, S < 256 → G S = ind (gdS I U T E M0 D d t S)) ?_ ?_ (255, h) ⟨fun _ => rfl, fun z => by omega, h.2.2.2.1 27 0, xsA_id.symm, fun S h1 h2 => by omega⟩
  · obtain ⟨x, e, G, rfl, q⟩ := key
    exact ⟨G, e, q⟩
  · rintro k hk ⟨q1, g⟩ ⟨e1, -, G, eg, l⟩
    have e1 : q1 = nI (255 - k) := e1 (by omega)
    have eg : g = xsA h 27 0 G := eg
    subst e1
    subst eg
    left
    have xS : xib (nI (255 - k)) 256 := xibN (by omega) (by decide)
    have hxB : oBx (xsA h 27 0 G) n I U T E M0 D d t := by
      obtain ⟨hc, ho, e⟩ := hx
      exact ⟨oCx_of (h := h) (fun _ _ _ _ => rfl) (fun f hf => rdA_n (show ¬ (f = 27 ∧ 0 = 0) by omega)) hc, fun S hS => by rw [rdA_n (by decide)]; exact ho S hS, e⟩
    have s0 : f_Sets_markGoodSets_s4 0 (nI (255 - k)) (xsA h 27 0 G) = (if nI (255 - k) < 0 then some (Sum.inr (xsA h 27 0 G)) else (f_Sets_isBest (nI (255 - k)) (xsA h 27 0 G)).bind (fun r2 => if xib (nI (255 - k)) 256 then (if r2 = 0 ∨ r2 = 1 then f_Sets_markGoodSets_l21 0 (nI (255 - k)) 0 (xsA (xsA h 27 0 G) 27 0 (upd ((xsA h 27 0 G).2.2.2.1 27 0) (nI (255 - k)).toNatClampNeg r2)) else none) else none)) := rfl
    rw [if_neg (nI_pos (by omega)), c_isBest hxB (by omega), Option.bind_some, if_pos xS, if_pos ind_01, rdA_s, xsA_2, nI_clamp (by omega)] at s0
    obtain ⟨G', eG, l1, l2⟩ := c_good21 (G := upd G (255 - k) (ind (opS I U T M0 D (255 - k) ∧ wt E (255 - k) = d ∧ wt T (255 - k) = t))) (S := 255 - k) hx (by omega) (fun S' h1 h2 => by rw [pk_un (by omega)]; exact l S' (by omega) h2) pk_us
    refine ⟨(nI (255 - k) + (-1), xsA h 27 0 G'), by show f_Sets_markGoodSets_s4 0 (nI (255 - k)) (xsA h 27 0 G) = _; rw [s0, eG], fun q => ?_, fun q => ?_, G', rfl, fun S h1 h2 => ?_⟩
    · show nI (255 - k) + (-1) = nI (255 - (k + 1))
      rw [show 255 - k = (255 - (k + 1)) + 1 by omega]
      exact pk_m1 _
    · show nI (255 - k) + (-1) = -1
      rw [show 255 - k = 0 by omega]
      decide
    · by_cases z : S = 255 - k
      · subst z; exact l2
      · rw [l1 S (by omega) h2, pk_un z]
        exact l S (by omega) h2
  · rintro ⟨q1, g⟩ ⟨-, e1, G, eg, l⟩
    have e1 : q1 = -1 := e1 rfl
    have eg : g = xsA h 27 0 G := eg
    subst e1
    subst eg
    refine ⟨xsA h 27 0 G, ?_, G, rfl, fun S hS => l S (by omega) hS⟩
    show f_Sets_markGoodSets_s4 0 (-1) (xsA h 27 0 G) = _
    unfold f_Sets_markGoodSets_s4
    rw [if_pos (by decide)]
