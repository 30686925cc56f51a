/-! PURE: rule: terms and sums, both sides -/
def sgT (s : Nat) : Option Nat := if s = 42 then some 4 else if s = 47 then some 5 else if s = 37 then some 14 else none
def sgS (s : Nat) : Option Nat := if s = 43 then some 2 else if s = 45 then some 3 else none
theorem c_sign2 {h : xH} {t p s : Nat} {B : Nat → Nat} (ht : tR h t B p) (hs : s < 400) (hn : ¬ isLB s = true) (hd : ¬ isDB s = true) (n0 : ¬ s = 60) (n2 : ¬ s = 62) : f_Tape_isSign (nI s) h = some (if p < t ∧ B p = s then 1 else 0) := by
  rw [c_isSignT ht hs hn hd]
  by_cases z : p < t ∧ B p = s
  · have nw : ¬ weqB B t p = true := fun y => by
      unfold weqB at y
      rw [Bool.and_eq_true, Bool.or_eq_true, decide_eq_true_iff, decide_eq_true_iff] at y
      rcases y.1 with y | y
      · exact n0 (z.2.symm.trans y)
      · exact n2 (z.2.symm.trans y)
    rw [if_pos z, if_pos ⟨z.1, z.2, nw⟩]
  · rw [if_neg z, if_neg (fun y => z ⟨y.1, y.2.1⟩)]
theorem m_cd {h : xH} {t p s : Nat} {B : Nat → Nat} (hm : mtx h t B) (hs : s < 128) : cdB B t p = nI s ↔ p < t ∧ B p = s := by
  unfold cdB
  by_cases z : p < t
  · have b : B p < 256 := by rw [← (hm.2.2 p z).2]; exact bN_lt
    rw [if_pos z, nI_eq (by omega) (by omega)]
    exact ⟨fun y => ⟨z, y⟩, fun y => y.2⟩
  · rw [if_neg z]
    exact ⟨fun y => absurd y.symm (nI_nm1 (by omega)), fun y => absurd y.1 z⟩
theorem m_at {h : xH} {t p s : Nat} {B : Nat → Nat} (hm : mtx h t B) (pt : p < t) (hs : s < 128) : h.2.2.2.1 47 0 p = nI s ↔ B p = s := by
  obtain ⟨x, y⟩ := hm.2.2 p pt
  rw [sB_eq x hs, y]
theorem m_see2 {h : xH} {t p : Nat} {B : Nat → Nat} (hm : mat h t B p) (hp : rn isSB B t p = p) : f_M_see h = some (cdB B t p, h) := by
  rw [m_see hm, hp, xsI_ide hm.2.1]
variable {t R : Nat} {B : Nat → Nat}
theorem S_term : lpS t B R sgT (fun s => f_RuleReader_readTerm_s6 s.1 s.2) f_M_term_s9 f_RuleReader_readValue f_M_value := by
  have e6 : ∀ v a, f_RuleReader_readTerm_s6 v a = (if (400 : Int32) ≤ v then some (Sum.inr a) else (f_Tape_isWell a).bind (fun r5 => if r5 = 0 then some (Sum.inr a) else (f_Tape_isSign 42 a).bind (fun r8 => if r8 = 0 then (f_Tape_isSign 47 a).bind (fun r11 => if r11 = 0 then (f_Tape_isSign 37 a).bind (fun r14 => if r14 = 0 then f_RuleReader_readTerm_b75 v (-1) a else f_RuleReader_readTerm_b75 v 16 a) else f_RuleReader_readTerm_b75 v 15 a) else f_RuleReader_readTerm_b75 v 14 a))) := fun _ _ => rfl
  have e75 : ∀ v w a, f_RuleReader_readTerm_b75 v w a = (if w = -1 then some (Sum.inr a) else (f_Tape_goOn a).bind (fun a1 => (f_RuleReader_readValue a1).bind (fun a2 => (a2.2.2.1 3 1 0).bind (fun i => (f_Rule_add i w a2).bind (fun a3 => some (Sum.inl (v + 1, a3))))))) := fun _ _ _ => rfl
  have c42 : ∀ a p, tR a t B p → f_Tape_isSign 42 a = some (if p < t ∧ B p = 42 then 1 else 0) := fun a p ht => c_sign2 (s := 42) ht (by decide) (by decide) (by decide) (by decide) (by decide)
  have c47 : ∀ a p, tR a t B p → f_Tape_isSign 47 a = some (if p < t ∧ B p = 47 then 1 else 0) := fun a p ht => c_sign2 (s := 47) ht (by decide) (by decide) (by decide) (by decide) (by decide)
  have c37 : ∀ a p, tR a t B p → f_Tape_isSign 37 a = some (if p < t ∧ B p = 37 then 1 else 0) := fun a p ht => c_sign2 (s := 37) ht (by decide) (by decide) (by decide) (by decide) (by decide)
  have e9 : ∀ b, f_M_term_s9 b = (f_M_see b).bind (fun q7 => if q7.1 = 42 then f_M_term_b36 q7.2 else (f_M_see q7.2).bind (fun q23 => if q23.1 = 47 then f_M_term_b36 q23.2 else (f_M_see q23.2).bind (fun q27 => if q27.1 = 37 then f_M_term_b36 q27.2 else some (Sum.inr (1, q27.2))))) := fun _ => rfl
  have e36 : ∀ b, f_M_term_b36 b = (if xib (b.1 12 8 0) 400 then (if b.2.2.2.1 47 0 (b.1 12 8 0).toNatClampNeg = 42 then f_M_term_b74 4 b else if xib (b.1 12 8 0) 400 then (if b.2.2.2.1 47 0 (b.1 12 8 0).toNatClampNeg = 47 then f_M_term_b74 5 b else f_M_term_b74 14 b) else none) else none) := fun _ => rfl
  have e74 : ∀ w b, f_M_term_b74 w b = (f_M_value (xsI b 12 8 0 (b.1 12 8 0 + 1))).bind (fun q14 => if q14.1 = 0 then some (Sum.inr (0, q14.2)) else (f_M_puts w 0 q14.2).bind (fun h18 => some (Sum.inl h18))) := fun _ _ => rfl
  refine ⟨fun s o h => ?_, fun v a h => ?_, fun v a p ht h => ?_, fun v a p o ht fa hv pt h => ?_, fun b q p hm hq h => ?_, fun b q p o hm hq pt h => ?_, fun a b p L C k hs fa fb hz hL => lk_value hs fa fb hz hL⟩
  · unfold sgT at h
    split at h
    · next z => subst z; cases h; exact ⟨by unfold opG; omega, by decide, by decide, by decide, by decide⟩
    split at h
    · next z => subst z; cases h; exact ⟨by unfold opG; omega, by decide, by decide, by decide, by decide⟩
    split at h
    · next z => subst z; cases h; exact ⟨by unfold opG; omega, by decide, by decide, by decide, by decide⟩
    · cases h
  · show f_RuleReader_readTerm_s6 v a = _
    rw [e6, c_well, Option.bind_some, if_neg h, if_pos rfl]
    split <;> rfl
  · show f_RuleReader_readTerm_s6 v a = _
    have n1 : ¬ (p < t ∧ B p = 42) := fun z => by have := h z.1; rw [z.2] at this; cases this
    have n2 : ¬ (p < t ∧ B p = 47) := fun z => by have := h z.1; rw [z.2] at this; cases this
    have n3 : ¬ (p < t ∧ B p = 37) := fun z => by have := h z.1; rw [z.2] at this; cases this
    rw [e6, c_well, Option.bind_some, c42 a p ht, Option.bind_some, if_neg n1, if_pos rfl, c47 a p ht, Option.bind_some, if_neg n2, if_pos rfl, c37 a p ht, Option.bind_some, if_neg n3, if_pos rfl, e75, if_pos rfl]
    split
    · rfl
    · split <;> rfl
  · show f_RuleReader_readTerm_s6 (nI v) a = _
    rw [e6, if_neg (show ¬ (400 : Int32) ≤ nI v from nI_ge (b := 400) hv (by decide)), c_well, Option.bind_some, if_pos fa, if_neg i1, c42 a p ht, Option.bind_some]
    unfold sgT at h
    split at h
    · next z =>
      cases h
      rw [if_pos (show p < t ∧ B p = 42 from ⟨pt, z⟩), if_neg i1, e75, if_neg (by decide)]
      rfl
    next n1 =>
    rw [if_neg (show ¬ (p < t ∧ B p = 42) from fun z => n1 z.2), if_pos rfl, c47 a p ht, Option.bind_some]
    split at h
    · next z =>
      cases h
      rw [if_pos (show p < t ∧ B p = 47 from ⟨pt, z⟩), if_neg i1, e75, if_neg (by decide)]
      rfl
    next n2 =>
    rw [if_neg (show ¬ (p < t ∧ B p = 47) from fun z => n2 z.2), if_pos rfl, c37 a p ht, Option.bind_some]
    split at h
    · next z =>
      cases h
      rw [if_pos (show p < t ∧ B p = 37 from ⟨pt, z⟩), if_neg i1, e75, if_neg (by decide)]
      rfl
    · cases h
  · have hp : rn isSB B t p = p := by rw [← hq]; exact rn_id
    have pt : p ≤ t := by rw [← hq]; exact rn_le q hm.2.2
    have mh := mat_s hm pt
    have n1 : ¬ cdB B t p = 42 := fun z => by
      have y := (m_cd (s := 42) hm.1 (by decide)).mp z
      have := h y.1; rw [y.2] at this; cases this
    have n2 : ¬ cdB B t p = 47 := fun z => by
      have y := (m_cd (s := 47) hm.1 (by decide)).mp z
      have := h y.1; rw [y.2] at this; cases this
    have n3 : ¬ cdB B t p = 37 := fun z => by
      have y := (m_cd (s := 37) hm.1 (by decide)).mp z
      have := h y.1; rw [y.2] at this; cases this
    rw [e9, m_see hm, Option.bind_some, hq, if_neg n1, m_see2 mh hp, Option.bind_some, if_neg n2, m_see2 mh hp, Option.bind_some, if_neg n3]
  · have hp : rn isSB B t p = p := by rw [← hq]; exact rn_id
    have t4 := hm.1.2.1
    obtain ⟨g, eg⟩ : ∃ g, g = xsI b 12 8 0 (nI p) := ⟨_, rfl⟩
    have mh : mat g t B p := by rw [eg]; exact mat_s hm (by omega)
    have x4 : xib (nI p) 400 := xibN (by omega) (by decide)
    have b36 : ∀ w, (if B p = 42 then f_M_term_b74 4 g else if B p = 47 then f_M_term_b74 5 g else f_M_term_b74 14 g) = w → f_M_term_b36 g = w := fun w ew => by
      rw [← ew, e36, mh.2.1, if_pos x4, if_pos x4]
      have rr : ∀ s, s < 128 → (g.2.2.2.1 47 0 (nI p).toNatClampNeg = nI s ↔ B p = s) := fun s hs => by rw [nI_clamp (by omega)]; exact m_at mh.1 pt hs
      by_cases z : B p = 42
      · rw [if_pos z, if_pos (show g.2.2.2.1 47 0 (nI p).toNatClampNeg = 42 from (rr 42 (by decide)).mpr z)]
      rw [if_neg z, if_neg (show ¬ g.2.2.2.1 47 0 (nI p).toNatClampNeg = 42 from fun y => z ((rr 42 (by decide)).mp y))]
      by_cases z2 : B p = 47
      · rw [if_pos z2, if_pos (show g.2.2.2.1 47 0 (nI p).toNatClampNeg = 47 from (rr 47 (by decide)).mpr z2)]
      rw [if_neg z2, if_neg (show ¬ g.2.2.2.1 47 0 (nI p).toNatClampNeg = 47 from fun y => z2 ((rr 47 (by decide)).mp y))]
    have g74 : ∀ w, f_M_term_b74 w g = (f_M_value (xsI b 12 8 0 (nI (p + 1)))).bind (fun q14 => if q14.1 = 0 then some (Sum.inr (0, q14.2)) else (f_M_puts w (nI 0) q14.2).bind (fun h18 => some (Sum.inl h18))) := fun w => by
      rw [e74, mh.2.1, nI_1, eg, xsI_2]; rfl
    rw [e9, m_see hm, Option.bind_some, hq, ← eg]
    unfold sgT at h
    split at h
    · next z =>
      cases h
      rw [if_pos (show cdB B t p = 42 from (m_cd (s := 42) hm.1 (by decide)).mpr ⟨pt, z⟩), b36 _ rfl, if_pos z, g74]
      rfl
    next n1 =>
    rw [if_neg (show ¬ cdB B t p = 42 from fun z => n1 ((m_cd (s := 42) hm.1 (by decide)).mp z).2), m_see2 mh hp, Option.bind_some]
    split at h
    · next z =>
      cases h
      rw [if_pos (show cdB B t p = 47 from (m_cd (s := 47) hm.1 (by decide)).mpr ⟨pt, z⟩), b36 _ rfl, if_neg n1, if_pos z, g74]
      rfl
    next n2 =>
    rw [if_neg (show ¬ cdB B t p = 47 from fun z => n2 ((m_cd (s := 47) hm.1 (by decide)).mp z).2), m_see2 mh hp, Option.bind_some]
    split at h
    · next z =>
      cases h
      rw [if_pos (show cdB B t p = 37 from (m_cd (s := 37) hm.1 (by decide)).mpr ⟨pt, z⟩), b36 _ rfl, if_neg n1, if_neg n2, g74]
      rfl
    · cases h
/-- first the one, then the loop -/
theorem lk_seq {sg : Nat → Option Nat} {stepC : Int32 × xH → Option ((Int32 × xH) ⊕ xH)} {stepM : xH → Option (xH ⊕ (Int32 × xH))} {subC : xH → Option xH} {subM : xH → Option (Int32 × xH)} (S : lpS t B R sg stepC stepM subC subM) {a b : xH} {p L C k : Nat} (hs : sy a b t B p) (fa : a.1 7 9 0 = 0) (fb : b.1 12 9 0 = 0) (hz : rz a b R L C k) (hL : L ≤ p) : ∃ a' r b', (subC a).bind (fun h3 => whl stepC (0, h3)) = some a' ∧ (subM b).bind (fun q3 => if q3.1 = 0 then some (0, q3.2) else whl stepM q3.2) = some (r, b') ∧ sfC R a a' ∧ sfM R b b' ∧ os a b a' b' t B R L C k p r := by
  obtain ⟨a1, r1, b1, ea1, eb1, f1, g1, o1⟩ := S.2.2.2.2.2.2 a b p L C k hs fa fb hz hL
  rcases o1 with ⟨rfl, x1, x2, l, k', p', x3, x4, x5, x6, x7⟩ | ⟨rfl, x1⟩
  · have z1 := rz_ex hz x3 f1.2.2 (g1.1 12 11 0 (by omega))
    obtain ⟨a2, r2, b2, ea2, eb2, f2, g2, o2⟩ := lk_loop S (t - p') 0 a1 b1 p' _ _ k' (Nat.le_refl _) (Nat.zero_le _) x6 x1 x2 z1 (by omega)
    refine ⟨a2, r2, b2, by rw [ea1, Option.bind_some]; exact ea2, by rw [eb1, Option.bind_some, if_neg i1]; exact eb2, sfC_t f1 f2, sfM_t g1 g2, ?_⟩
    rcases o2 with ⟨rfl, u1, u2, l', k2, p2, u3, u4, u5, u6⟩ | ⟨rfl, u1⟩
    · exact Or.inl ⟨rfl, u1, u2, l ++ l', k2, p2, ex_t x3 u3, by rw [List.length_append]; omega, by omega, u5, exG_c x7 u6⟩
    · exact Or.inr ⟨rfl, u1⟩
  · exact ⟨a1, 0, b1, by rw [ea1, Option.bind_some]; exact whl_en (S.2.1 _ a1 x1.2.2), by rw [eb1, Option.bind_some, if_pos rfl], f1, g1, Or.inr ⟨rfl, x1⟩⟩
theorem lk_term {a b : xH} {p L C k : Nat} (hs : sy a b t B p) (fa : a.1 7 9 0 = 0) (fb : b.1 12 9 0 = 0) (hz : rz a b R L C k) (hL : L ≤ p) : ∃ a' r b', f_RuleReader_readTerm a = some a' ∧ f_M_term b = some (r, b') ∧ sfC R a a' ∧ sfM R b b' ∧ os a b a' b' t B R L C k p r := lk_seq S_term hs fa fb hz hL
