/-! PURE: rule: sums, both sides -/
variable {t R : Nat} {B : Nat → Nat}
theorem S_sum : lpS t B R sgS (fun s => f_RuleReader_readSum_s6 s.1 s.2) f_M_sum_s9 f_RuleReader_readTerm f_M_term := by
  have e6 : ∀ v a, f_RuleReader_readSum_s6 v a = (if (400 : Int32) ≤ v then some (Sum.inr a) else (f_Tape_isWell a).bind (fun r5 => if r5 = 0 then some (Sum.inr a) else (f_Tape_isSign 43 a).bind (fun r8 => if r8 = 0 then (f_Tape_isSign 45 a).bind (fun r11 => if r11 = 0 then f_RuleReader_readSum_b58 v (-1) a else f_RuleReader_readSum_b58 v 13 a) else f_RuleReader_readSum_b58 v 12 a))) := fun _ _ => rfl
  have e75 : ∀ v w a, f_RuleReader_readSum_b58 v w a = (if w = -1 then some (Sum.inr a) else (f_Tape_goOn a).bind (fun a1 => (f_RuleReader_readTerm a1).bind (fun a2 => (a2.2.2.1 3 1 0).bind (fun i => (f_Rule_add i w a2).bind (fun a3 => some (Sum.inl (v + 1, a3))))))) := fun _ _ _ => rfl
  have c43 : ∀ a p, tR a t B p → f_Tape_isSign 43 a = some (if p < t ∧ B p = 43 then 1 else 0) := fun a p ht => c_sign2 (s := 43) ht (by decide) (by decide) (by decide) (by decide) (by decide)
  have c45 : ∀ a p, tR a t B p → f_Tape_isSign 45 a = some (if p < t ∧ B p = 45 then 1 else 0) := fun a p ht => c_sign2 (s := 45) ht (by decide) (by decide) (by decide) (by decide) (by decide)
  have e9 : ∀ b, f_M_sum_s9 b = (f_M_see b).bind (fun q7 => if q7.1 = 43 then f_M_sum_b27 q7.2 else (f_M_see q7.2).bind (fun q21 => if q21.1 = 45 then f_M_sum_b27 q21.2 else some (Sum.inr (1, q21.2)))) := fun _ => rfl
  have e27 : ∀ b, f_M_sum_b27 b = (if xib (b.1 12 8 0) 400 then (if b.2.2.2.1 47 0 (b.1 12 8 0).toNatClampNeg = 43 then f_M_sum_b46 2 b else f_M_sum_b46 3 b) else none) := fun _ => rfl
  have e46 : ∀ w b, f_M_sum_b46 w b = (f_M_term (xsI b 12 8 0 (b.1 12 8 0 + 1))).bind (fun q14 => if q14.1 = 0 then some (Sum.inr (0, q14.2)) else (f_M_puts w 0 q14.2).bind (fun h18 => some (Sum.inl h18))) := fun _ _ => rfl
  refine ⟨fun s o h => ?_, fun v a h => ?_, fun v a p ht h => ?_, fun v a p o ht fa hv pt h => ?_, fun b q p hm hq h => ?_, fun b q p o hm hq pt h => ?_, fun a b p L C k hs fa fb hz hL => lk_term hs fa fb hz hL⟩
  · unfold sgS at h
    split at h
    · next z => subst z; cases h; exact ⟨by unfold opG; omega, by decide, by decide, by decide, by decide⟩
    split at h
    · next z => subst z; cases h; exact ⟨by unfold opG; omega, by decide, by decide, by decide, by decide⟩
    · cases h
  · show f_RuleReader_readSum_s6 v a = _
    rw [e6, c_well, Option.bind_some, if_neg h, if_pos rfl]
    split <;> rfl
  · show f_RuleReader_readSum_s6 v a = _
    have n1 : ¬ (p < t ∧ B p = 43) := fun z => by have := h z.1; rw [z.2] at this; cases this
    have n2 : ¬ (p < t ∧ B p = 45) := fun z => by have := h z.1; rw [z.2] at this; cases this
    rw [e6, c_well, Option.bind_some, c43 a p ht, Option.bind_some, if_neg n1, if_pos rfl, c45 a p ht, Option.bind_some, if_neg n2, if_pos rfl, e75, if_pos rfl]
    split
    · rfl
    · split <;> rfl
  · show f_RuleReader_readSum_s6 (nI v) a = _
    rw [e6, if_neg (show ¬ (400 : Int32) ≤ nI v from nI_ge (b := 400) hv (by decide)), c_well, Option.bind_some, if_pos fa, if_neg i1, c43 a p ht, Option.bind_some]
    unfold sgS at h
    split at h
    · next z =>
      cases h
      rw [if_pos (show p < t ∧ B p = 43 from ⟨pt, z⟩), if_neg i1, e75, if_neg (by decide)]
      rfl
    next n1 =>
    rw [if_neg (show ¬ (p < t ∧ B p = 43) from fun z => n1 z.2), if_pos rfl, c45 a p ht, Option.bind_some]
    split at h
    · next z =>
      cases h
      rw [if_pos (show p < t ∧ B p = 45 from ⟨pt, z⟩), if_neg i1, e75, if_neg (by decide)]
      rfl
    · cases h
  · have hp : rn isSB B t p = p := by rw [← hq]; exact rn_id
    have pt : p ≤ t := by rw [← hq]; exact rn_le q hm.2.2
    have mh := mat_s hm pt
    have n1 : ¬ cdB B t p = 43 := fun z => by
      have y := (m_cd (s := 43) hm.1 (by decide)).mp z
      have := h y.1; rw [y.2] at this; cases this
    have n2 : ¬ cdB B t p = 45 := fun z => by
      have y := (m_cd (s := 45) hm.1 (by decide)).mp z
      have := h y.1; rw [y.2] at this; cases this
    rw [e9, m_see hm, Option.bind_some, hq, if_neg n1, m_see2 mh hp, Option.bind_some, if_neg n2]
  · have hp : rn isSB B t p = p := by rw [← hq]; exact rn_id
    have t4 := hm.1.2.1
    obtain ⟨g, eg⟩ : ∃ g, g = xsI b 12 8 0 (nI p) := ⟨_, rfl⟩
    have mh : mat g t B p := by rw [eg]; exact mat_s hm (by omega)
    have x4 : xib (nI p) 400 := xibN (by omega) (by decide)
    have b27 : ∀ w, (if B p = 43 then f_M_sum_b46 2 g else f_M_sum_b46 3 g) = w → f_M_sum_b27 g = w := fun w ew => by
      rw [← ew, e27, mh.2.1, if_pos x4]
      have rr : ∀ s, s < 128 → (g.2.2.2.1 47 0 (nI p).toNatClampNeg = nI s ↔ B p = s) := fun s hs => by rw [nI_clamp (by omega)]; exact m_at mh.1 pt hs
      by_cases z : B p = 43
      · rw [if_pos z, if_pos (show g.2.2.2.1 47 0 (nI p).toNatClampNeg = 43 from (rr 43 (by decide)).mpr z)]
      rw [if_neg z, if_neg (show ¬ g.2.2.2.1 47 0 (nI p).toNatClampNeg = 43 from fun y => z ((rr 43 (by decide)).mp y))]
    have g46 : ∀ w, f_M_sum_b46 w g = (f_M_term (xsI b 12 8 0 (nI (p + 1)))).bind (fun q14 => if q14.1 = 0 then some (Sum.inr (0, q14.2)) else (f_M_puts w (nI 0) q14.2).bind (fun h18 => some (Sum.inl h18))) := fun w => by
      rw [e46, mh.2.1, nI_1, eg, xsI_2]; rfl
    rw [e9, m_see hm, Option.bind_some, hq, ← eg]
    unfold sgS at h
    split at h
    · next z =>
      cases h
      rw [if_pos (show cdB B t p = 43 from (m_cd (s := 43) hm.1 (by decide)).mpr ⟨pt, z⟩), b27 _ rfl, if_pos z, g46]
      rfl
    next n1 =>
    rw [if_neg (show ¬ cdB B t p = 43 from fun z => n1 ((m_cd (s := 43) hm.1 (by decide)).mp z).2), m_see2 mh hp, Option.bind_some]
    split at h
    · next z =>
      cases h
      rw [if_pos (show cdB B t p = 45 from (m_cd (s := 45) hm.1 (by decide)).mpr ⟨pt, z⟩), b27 _ rfl, if_neg n1, g46]
      rfl
    · cases h
theorem lk_sum {a b : xH} {p L C k : Nat} (hs : sy a b t B p) (fa : a.1 7 9 0 = 0) (fb : b.1 12 9 0 = 0) (hz : rz a b R L C k) (hL : L ≤ p) : ∃ a' r b', f_RuleReader_readSum a = some a' ∧ f_M_sum b = some (r, b') ∧ sfC R a a' ∧ sfM R b b' ∧ os a b a' b' t B R L C k p r := lk_seq S_sum hs fa fb hz hL
