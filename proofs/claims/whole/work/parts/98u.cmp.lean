/-! PURE: rule: a comparison, both sides -/
def exT (l : List (Nat × Nat)) : Prop := ∀ (w : Nat → Int64) (N : Nat) (st : List Int64), st.length + np l ≤ N → ∃ x, evs w N l st = some (x :: st) ∧ (x = 0 ∨ x = 1)
def ot (a b a' b' : xH) (t : Nat) (B : Nat → Nat) (R L C k p : Nat) (r : Int32) : Prop := (r = 1 ∧ a'.1 7 9 0 = 0 ∧ b'.1 12 9 0 = 0 ∧ ∃ l k' p', ex a b a' b' R L C k l k' ∧ l.length + p ≤ p' ∧ p < p' ∧ sy a' b' t B p' ∧ exT l) ∨ (r = 0 ∧ fk a' b' t B)
theorem exG_np {l : List (Nat × Nat)} (x : exG l) : 1 ≤ np l := by
  obtain ⟨u, e⟩ := x (fun _ => 0) (np l) [] (by show 0 + np l ≤ np l; omega)
  have := evs_np l e
  have h2 : (1 : Nat) ≤ 0 + np l := this
  omega
theorem op01 {o : Nat} (h : 6 ≤ o ∧ o ≤ 10) (x y : Int64) : opI o x y = 0 ∨ opI o x y = 1 := by
  rcases (show o = 6 ∨ o = 7 ∨ o = 8 ∨ o = 9 ∨ o = 10 by omega) with rfl | rfl | rfl | rfl | rfl
  · show (if (0 : Int32) ≤ lg_cmp x y then (0 : Int64) else 1) = 0 ∨ (if (0 : Int32) ≤ lg_cmp x y then (0 : Int64) else 1) = 1
    split <;> simp
  · show (if (0 : Int32) < lg_cmp x y then (0 : Int64) else 1) = 0 ∨ (if (0 : Int32) < lg_cmp x y then (0 : Int64) else 1) = 1
    split <;> simp
  · show (if lg_cmp x y = 0 then (1 : Int64) else 0) = 0 ∨ (if lg_cmp x y = 0 then (1 : Int64) else 0) = 1
    split <;> simp
  · show (if lg_cmp x y < 0 then (0 : Int64) else 1) = 0 ∨ (if lg_cmp x y < 0 then (0 : Int64) else 1) = 1
    split <;> simp
  · show (if lg_cmp x y ≤ 0 then (0 : Int64) else 1) = 0 ∨ (if lg_cmp x y ≤ 0 then (0 : Int64) else 1) = 1
    split <;> simp
theorem exT_c {l m : List (Nat × Nat)} {o : Nat} (h : 6 ≤ o ∧ o ≤ 10) (x : exG l) (y : exG m) : exT (l ++ (m ++ [(o, 0)])) := fun w N st hl => by
  have og : opG o := by unfold opG; omega
  rw [np_a, np_a, op_np og] at hl
  have n1 := exG_np x
  obtain ⟨u, eu⟩ := x w N st (by omega)
  obtain ⟨v, ev⟩ := y w N (u :: st) (by show st.length + 1 + np m ≤ N; omega)
  rw [evs_app, eu, Option.bind_some, evs_app, ev, Option.bind_some, op_ev og]
  exact ⟨_, rfl, op01 h u v⟩
theorem ex_k {a b a' b' : xH} {R L C k k' : Nat} {l : List (Nat × Nat)} (x : ex a b a' b' R L C (k + 1) l k') : ex a b a' b' R L C k l k' := by
  obtain ⟨x1, x2, x3, x4, x5, x6⟩ := x
  exact ⟨x1, x2, x3, x4, x5, by omega⟩
def cmpO (B : Nat → Nat) (t p : Nat) : Option Nat := if p < t then (if B p = 60 then (if weqB B t p = true then some 7 else some 6) else if B p = 61 then some 8 else if B p = 62 then (if weqB B t p = true then some 9 else some 10) else none) else none
theorem cmpO_r {B : Nat → Nat} {t p o : Nat} (h : cmpO B t p = some o) : p < t ∧ (B p = 60 ∨ B p = 61 ∨ B p = 62) ∧ 6 ≤ o ∧ o ≤ 10 := by
  unfold cmpO at h
  split at h
  · next z =>
    split at h
    · next y => split at h <;> cases h <;> exact ⟨z, Or.inl y, by omega, by omega⟩
    split at h
    · next y => cases h; exact ⟨z, Or.inr (Or.inl y), by omega, by omega⟩
    split at h
    · next y => split at h <;> cases h <;> exact ⟨z, Or.inr (Or.inr y), by omega, by omega⟩
    · cases h
  · cases h
theorem weq_61 {B : Nat → Nat} {t p : Nat} (h : weqB B t p = true) : (B p = 60 ∨ B p = 62) ∧ p + 1 < t ∧ B (p + 1) = 61 := by
  unfold weqB at h
  rw [Bool.and_eq_true, Bool.or_eq_true, decide_eq_true_iff, decide_eq_true_iff, Bool.and_eq_true, decide_eq_true_iff, decide_eq_true_iff] at h
  exact h
theorem c_cmpHere {a : xH} {t p : Nat} {B : Nat → Nat} (ht : tR a t B p) : f_RuleReader_comparisonHere a = some (match cmpO B t p with | some o => nI (cN (o, 0)) | none => -1) := by
  have s0 : f_RuleReader_comparisonHere a = (if a.1 7 7 0 = 3 then (if a.1 7 8 0 = 60 then some 17 else if a.1 7 8 0 = 61 then some 19 else if a.1 7 8 0 = 62 then some 21 else if a.1 7 8 0 = 460 then some 18 else if a.1 7 8 0 = 462 then some 20 else some (-1)) else some (-1)) := rfl
  obtain ⟨hc, x, np, _, _, _, _, _, _, _, _, k7, v7⟩ := ht
  rw [s0, k7]
  unfold kdB cmpO
  by_cases pt : p < t
  · have b8 := (hc.2.2 p pt).2
    rw [if_neg (show ¬ t ≤ p by omega), if_pos pt]
    by_cases l : isLB (B p) = true
    · have := of_decide_eq_true l
      rw [if_pos l, if_neg (by decide), if_neg (by omega), if_neg (by omega), if_neg (by omega)]
    rw [if_neg l]
    by_cases d : isDB (B p) = true
    · have := of_decide_eq_true d
      rw [if_pos d, if_neg (by decide), if_neg (by omega), if_neg (by omega), if_neg (by omega)]
    rw [if_neg d, if_pos rfl, v7.2.2.2 pt l d]
    have eqn : ∀ c, c < 1000 → ∀ v, v < 1000 → (nI v = nI c ↔ v = c) := fun c hc v hv => nI_eq (by omega) (by omega)
    by_cases w : weqB B t p = true
    · rw [if_pos w, if_pos w, if_pos w]
      rcases (weq_61 w).1 with y | y
      · rw [y]; rfl
      · rw [y]; rfl
    · rw [if_neg w, Nat.add_zero, if_neg w, if_neg w]
      by_cases y0 : B p = 60
      · rw [y0]; rfl
      by_cases y1 : B p = 61
      · rw [y1]; rfl
      by_cases y2 : B p = 62
      · rw [y2]; rfl
      rw [if_neg (show ¬ nI (B p) = 60 from fun z => y0 ((eqn 60 (by decide) _ (by omega)).mp z)), if_neg (show ¬ nI (B p) = 61 from fun z => y1 ((eqn 61 (by decide) _ (by omega)).mp z)), if_neg (show ¬ nI (B p) = 62 from fun z => y2 ((eqn 62 (by decide) _ (by omega)).mp z)), if_neg (show ¬ nI (B p) = 460 from fun z => by have := (eqn 460 (by decide) _ (by omega)).mp z; omega), if_neg (show ¬ nI (B p) = 462 from fun z => by have := (eqn 462 (by decide) _ (by omega)).mp z; omega), if_neg y0, if_neg y1, if_neg y2]
  · rw [if_pos (show t ≤ p by omega), if_neg (by decide), if_neg pt]
/-- the reference behind its sign -/
noncomputable def mCmp (p o : Nat) (g : xH) : Option (Int32 × xH) := (f_M_makes (nI p) g).bind (fun q15 => if q15.1 = 0 then some (0, q15.2) else (f_M_sum q15.2).bind (fun q21 => if q21.1 = 0 then some (0, q21.2) else (f_M_puts (nI o) (nI 0) q21.2).bind (fun h25 => some (1, h25))))
theorem m_cmp44 {h : xH} {t p o : Nat} {B : Nat → Nat} (hm : mat h t B p) (ho : cmpO B t p = some o) : f_M_compare_b44 (nI (B p)) (nI p) h = mCmp p o (xsI h 12 8 0 (nI (enB B t p))) := by
  obtain ⟨pt, hB, -⟩ := cmpO_r ho
  have t4 := hm.1.2.1
  obtain ⟨g, eg⟩ : ∃ g, g = xsI h 12 8 0 (nI (p + 1)) := ⟨_, rfl⟩
  have gm : mat g t B (p + 1) := by rw [eg]; exact mat_s hm (by omega)
  have s0 : f_M_compare_b44 (nI (B p)) (nI p) h = (if nI (B p) = 61 then f_M_compare_b90 (nI (B p)) (nI p) 0 (xsI h 12 8 0 (h.1 12 8 0 + 1)) else if (xsI h 12 8 0 (h.1 12 8 0 + 1)).1 12 1 0 ≤ (xsI h 12 8 0 (h.1 12 8 0 + 1)).1 12 8 0 then f_M_compare_b90 (nI (B p)) (nI p) 0 (xsI h 12 8 0 (h.1 12 8 0 + 1)) else if xib ((xsI h 12 8 0 (h.1 12 8 0 + 1)).1 12 8 0) 400 then (if (xsI h 12 8 0 (h.1 12 8 0 + 1)).2.2.2.1 47 0 ((xsI h 12 8 0 (h.1 12 8 0 + 1)).1 12 8 0).toNatClampNeg = 61 then f_M_compare_b90 (nI (B p)) (nI p) 1 (xsI h 12 8 0 (h.1 12 8 0 + 1)) else f_M_compare_b90 (nI (B p)) (nI p) 0 (xsI h 12 8 0 (h.1 12 8 0 + 1))) else none) := rfl
  rw [hm.2.1, nI_1, ← eg, gm.1.1, gm.2.1] at s0
  have e90 : ∀ v, f_M_compare_b90 (nI (B p)) (nI p) v g = (if v = 0 then f_M_compare_b105 (nI (B p)) (nI p) v g else f_M_compare_b105 (nI (B p)) (nI p) v (xsI g 12 8 0 (g.1 12 8 0 + 1))) := fun _ => rfl
  have e105 : ∀ v g', f_M_compare_b105 (nI (B p)) (nI p) v g' = (f_M_makes (nI p) g').bind (fun q15 => if q15.1 = 0 then some (0, q15.2) else if nI (B p) = 60 then (if v = 0 then f_M_compare_b152 0 q15.2 else f_M_compare_b152 1 q15.2) else if nI (B p) = 61 then f_M_compare_b152 2 q15.2 else if v = 0 then f_M_compare_b152 4 q15.2 else f_M_compare_b152 3 q15.2) := fun _ _ => rfl
  have e152 : ∀ (z : Int32) g', f_M_compare_b152 z g' = (f_M_sum g').bind (fun q21 => if q21.1 = 0 then some (0, q21.2) else (f_M_puts (6 + z) 0 q21.2).bind (fun h25 => some (1, h25))) := fun _ _ => rfl
  have nLD : ¬ isLB (B p) = true ∧ ¬ isDB (B p) = true := by
    rcases hB with z | z | z <;> rw [z] <;> exact ⟨by decide, by decide⟩
  have en : enB B t p = if weqB B t p = true then p + 2 else p + 1 := by
    unfold enB
    rw [if_neg (show ¬ t ≤ p by omega), if_neg nLD.1, if_neg nLD.2]
  have mk : ∀ (v : Int32) g' , (∀ q, (if nI (B p) = 60 then (if v = 0 then f_M_compare_b152 0 q else f_M_compare_b152 1 q) else if nI (B p) = 61 then f_M_compare_b152 2 q else if v = 0 then f_M_compare_b152 4 q else f_M_compare_b152 3 q) = (f_M_sum q).bind (fun q21 => if q21.1 = 0 then some (0, q21.2) else (f_M_puts (nI o) (nI 0) q21.2).bind (fun h25 => some (1, h25)))) → f_M_compare_b105 (nI (B p)) (nI p) v g' = mCmp p o g' := fun v g' hq => by
    rw [e105]
    unfold mCmp
    congr 1
    funext q15
    split
    · rfl
    · exact hq q15.2
  by_cases w : weqB B t p = true
  · obtain ⟨w1, w2, w3⟩ := weq_61 w
    have c61 : g.2.2.2.1 47 0 (nI (p + 1)).toNatClampNeg = 61 := by
      rw [nI_clamp (by omega)]
      exact (m_at (s := 61) gm.1 w2 (by decide)).mpr w3
    have n61 : ¬ nI (B p) = 61 := by rcases w1 with z | z <;> rw [z] <;> decide
    rw [if_neg n61, if_neg (nI_ge w2 (by omega)), if_pos (xibN (by omega) (by decide)), if_pos c61, e90, if_neg i1, gm.2.1, nI_1, eg, xsI_2] at s0
    rw [s0, en, if_pos w]
    refine mk 1 _ (fun q => ?_)
    unfold cmpO at ho
    rw [if_pos pt] at ho
    rcases w1 with z | z
    · rw [if_pos z, if_pos w] at ho
      cases ho
      rw [z, if_pos (by decide), if_neg i1, e152]; rfl
    · rw [if_neg (by omega), if_neg (by omega), if_pos z, if_pos w] at ho
      cases ho
      rw [z, if_neg (by decide), if_neg (by decide), if_neg i1, e152]; rfl
  · have n90 : f_M_compare_b44 (nI (B p)) (nI p) h = f_M_compare_b90 (nI (B p)) (nI p) 0 g := by
      rw [s0]
      by_cases c1 : nI (B p) = 61
      · rw [if_pos c1]
      rw [if_neg c1]
      by_cases c2 : p + 1 < t
      · rw [if_neg (nI_ge c2 (by omega)), if_pos (xibN (by omega) (by decide)), if_neg (fun z => ?_)]
        rw [nI_clamp (by omega)] at z
        have b1 := (m_at (s := 61) gm.1 c2 (by decide)).mp z
        refine w ?_
        unfold weqB
        rw [Bool.and_eq_true, Bool.or_eq_true, decide_eq_true_iff, decide_eq_true_iff, Bool.and_eq_true, decide_eq_true_iff, decide_eq_true_iff]
        refine ⟨?_, c2, b1⟩
        rcases hB with y | y | y
        · exact Or.inl y
        · exact absurd (by rw [y]; decide) c1
        · exact Or.inr y
      · rw [if_pos (nI_le (by omega) (by omega))]
    rw [n90, e90, if_pos rfl, en, if_neg w, ← eg]
    refine mk 0 _ (fun q => ?_)
    unfold cmpO at ho
    rw [if_pos pt] at ho
    rcases hB with z | z | z
    · rw [if_pos z, if_neg w] at ho
      cases ho
      rw [z, if_pos (by decide), if_pos rfl, e152]; rfl
    · rw [if_neg (by omega), if_pos z] at ho
      cases ho
      rw [z, if_neg (by decide), if_pos (by decide), e152]; rfl
    · rw [if_neg (by omega), if_neg (by omega), if_pos z, if_neg w] at ho
      cases ho
      rw [z, if_neg (by decide), if_neg (by decide), if_pos rfl, e152]; rfl
