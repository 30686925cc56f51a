/-! PURE: rule: the class reads on in vain -/
def vS (R t : Nat) (B : Nat → Nat) (a : xH) : Prop := a.2.2.1 3 1 0 = some R ∧ (∃ p, tR a t B p) ∧ ¬ a.1 7 9 0 = 0
def vO (R t : Nat) (B : Nat → Nat) (X : Option xH) (a : xH) : Prop := ∃ a', X = some a' ∧ sfC R a a' ∧ vS R t B a' ∧ a'.1 7 9 0 = a.1 7 9 0
variable {R t : Nat} {B : Nat → Nat}
theorem v_s {a : xH} (h : vS R t B a) : vO R t B (some a) a := ⟨a, rfl, sfC_r R a, h, rfl⟩
theorem v_bind {a : xH} {X : Option xH} {f : xH → Option xH} (x : vO R t B X a) (y : ∀ a1, vS R t B a1 → vO R t B (f a1) a1) : vO R t B (X.bind f) a := by
  obtain ⟨a1, e1, f1, s1, w1⟩ := x
  obtain ⟨a2, e2, f2, s2, w2⟩ := y a1 s1
  exact ⟨a2, by rw [e1, Option.bind_some, e2], sfC_t f1 f2, s2, w2.trans w1⟩
theorem v_fail {a : xH} (w : Nat) (h : vS R t B a) : vO R t B (f_Tape_fail (nI w) a) a := by
  obtain ⟨h1, ⟨p, h2⟩, h3⟩ := h
  obtain ⟨a4, ea4, t4, f4, w4, _, e2⟩ := c_failT (w := w) h2
  rw [if_neg h3] at w4
  exact ⟨a4, ea4, sfC_p f4 (by rw [e2]), ⟨by rw [e2]; exact h1, ⟨p, t4⟩, by rw [w4]; exact h3⟩, w4⟩
theorem v_goOn {a : xH} (h : vS R t B a) : vO R t B (f_Tape_goOn a) a := by
  obtain ⟨h1, ⟨p, h2⟩, h3⟩ := h
  obtain ⟨a4, ea4, t4, f4, w4⟩ := c_goOnT h2
  have e2 := c_goOn2 ea4
  exact ⟨a4, ea4, sfC_p f4 (by rw [e2]), ⟨by rw [e2]; exact h1, ⟨_, t4⟩, by rw [w4]; exact h3⟩, w4⟩
theorem tR_ad {a a' : xH} {p : Nat} (f : adF R a a') (h : tR a t B p) : tR a' t B p := tR_of (fun k => f.1 7 k 0 (by omega)) (fun g _ _ => f.2.1 g 0 (by omega)) h
theorem v_add {a : xH} (v : Int32) (h : vS R t B a) : vO R t B (f_Rule_add R v a) a := by
  obtain ⟨h1, ⟨p, h2⟩, h3⟩ := h
  obtain ⟨a', ea, f⟩ := c_addV (h := a) (R := R) v
  exact ⟨a', ea, sfC_a f, ⟨by rw [f.2.2]; exact h1, ⟨p, tR_ad f h2⟩, by rw [f.1 7 9 0 (by omega)]; exact h3⟩, f.1 7 9 0 (by omega)⟩
theorem v_3 {a : xH} {X : Option xH} {v : Int32} (h : vS R t B a) (y : vS R t B (xsI a 3 3 0 v) → vO R t B X (xsI a 3 3 0 v)) : vO R t B X a := by
  obtain ⟨h1, ⟨p, h2⟩, h3⟩ := h
  obtain ⟨a', e, f, s, w⟩ := y ⟨h1, ⟨p, tR_of (fun _ => rdI (by omega)) (fun _ _ _ => rfl) h2⟩, by rw [rdI (by decide)]; exact h3⟩
  exact ⟨a', e, sfC_t ⟨fun c k i _ _ q => rdI q, fun _ _ _ _ => rfl, rfl⟩ f, s, w.trans (rdI (by decide))⟩
/-- an addition to the rule that is read -/
theorem v_addR {a : xH} (v : Int32) {f : xH → Option xH} (h : vS R t B a) (y : ∀ a1, vS R t B a1 → vO R t B (f a1) a1) : vO R t B ((a.2.2.1 3 1 0).bind (fun i => (f_Rule_add i v a).bind f)) a := by
  rw [h.1, Option.bind_some]
  exact v_bind (v_add v h) y
theorem v_b112 {a : xH} (v : Int32) (h : vS R t B a) : vO R t B (f_RuleReader_readValue_b112 v a) a := by
  have e : f_RuleReader_readValue_b112 v a = (if v = 0 then ((xsI a 3 3 0 (a.1 3 3 0 + 1)).2.2.1 3 1 0).bind (fun i => (f_Rule_add i ((xsI a 3 3 0 (a.1 3 3 0 + 1)).1 7 8 0) (xsI a 3 3 0 (a.1 3 3 0 + 1))).bind (fun h16 => (f_Tape_goOn h16).bind (fun h19 => some h19))) else ((xsI a 3 3 0 (a.1 3 3 0 + 1)).2.2.1 3 1 0).bind (fun i => (f_Rule_add i (100 + (xsI a 3 3 0 (a.1 3 3 0 + 1)).1 7 8 0) (xsI a 3 3 0 (a.1 3 3 0 + 1))).bind (fun h16 => (f_Tape_goOn h16).bind (fun h19 => some h19)))) := rfl
  rw [e]
  refine v_3 (v := a.1 3 3 0 + 1) h (fun h => ?_)
  split
  · exact v_addR _ h (fun a1 s1 => v_bind (v_goOn s1) (fun a2 s2 => v_s s2))
  · exact v_addR _ h (fun a1 s1 => v_bind (v_goOn s1) (fun a2 s2 => v_s s2))
theorem v_b95 {a : xH} (v : Int32) (h : vS R t B a) : vO R t B (f_RuleReader_readValue_b95 v a) a := by
  have e : f_RuleReader_readValue_b95 v a = (if a.1 3 3 0 < 60 then f_RuleReader_readValue_b112 v a else (f_Tape_fail 3 a).bind (fun h22 => f_RuleReader_readValue_b112 v h22)) := rfl
  rw [e]
  split
  · exact v_b112 v h
  · exact v_bind (v_fail 3 h) (fun a1 s1 => v_b112 v s1)
theorem v_b72 {a : xH} (v : Int32) (h : vS R t B a) : vO R t B (f_RuleReader_readValue_b72 v a) a := by
  have e : f_RuleReader_readValue_b72 v a = (if v = 0 then f_RuleReader_readValue_b95 v a else if a.1 7 8 0 = -1 then (f_Tape_fail 1 a).bind (fun h26 => f_RuleReader_readValue_b95 v h26) else f_RuleReader_readValue_b95 v a) := rfl
  rw [e]
  split
  · exact v_b95 v h
  split
  · exact v_bind (v_fail 1 h) (fun a1 s1 => v_b95 v s1)
  · exact v_b95 v h
theorem v_b55 {a : xH} (v w : Int32) (h : vS R t B a) : vO R t B (f_RuleReader_readValue_b55 v w a) a := by
  have e : f_RuleReader_readValue_b55 v w a = (if v = 0 then (if w = 0 then (f_Tape_fail 0 a).bind (fun h8 => f_RuleReader_readValue_b72 v h8) else f_RuleReader_readValue_b72 v a) else f_RuleReader_readValue_b72 v a) := rfl
  rw [e]
  split
  · split
    · exact v_bind (v_fail 0 h) (fun a1 s1 => v_b72 v s1)
    · exact v_b72 v h
  · exact v_b72 v h
theorem c_value16 {a : xH} {v : Int32} : f_RuleReader_readValue_b16 v a = (if a.1 7 7 0 = 1 then (if a.1 7 8 0 < 0 then f_RuleReader_readValue_b55 v 0 a else if (12 : Int32) ≤ a.1 7 8 0 then f_RuleReader_readValue_b55 v 0 a else f_RuleReader_readValue_b55 v 1 a) else f_RuleReader_readValue_b55 v 0 a) := rfl
theorem c_valueE {a : xH} : f_RuleReader_readValue a = (if a.1 7 7 0 = 2 then f_RuleReader_readValue_b16 1 a else f_RuleReader_readValue_b16 0 a) := rfl
theorem v_value {a : xH} (h : vS R t B a) : vO R t B (f_RuleReader_readValue a) a := by
  have e16 : ∀ v, vO R t B (f_RuleReader_readValue_b16 v a) a := fun v => by
    rw [c_value16]
    split
    · split
      · exact v_b55 v 0 h
      split
      · exact v_b55 v 0 h
      · exact v_b55 v 1 h
    · exact v_b55 v 0 h
  rw [c_valueE]
  split
  · exact e16 1
  · exact e16 0
theorem v_term6 {a : xH} (v : Int32) (h : vS R t B a) : vO R t B (f_RuleReader_readTerm_l6 v a) a := by
  have e : f_RuleReader_readTerm_l6 v a = some a := by
    refine whl_en ?_
    show (if (400 : Int32) ≤ v then some (Sum.inr a) else (f_Tape_isWell a).bind (fun r5 => if r5 = 0 then some (Sum.inr a) else _)) = _
    rw [c_well, Option.bind_some, if_neg h.2.2, if_pos rfl]
    split <;> rfl
  rw [e]
  exact v_s h
theorem v_term {a : xH} (h : vS R t B a) : vO R t B (f_RuleReader_readTerm a) a := by
  have e : f_RuleReader_readTerm a = (f_RuleReader_readValue a).bind (fun h3 => f_RuleReader_readTerm_l6 0 h3) := rfl
  rw [e]
  exact v_bind (v_value h) (fun a1 s1 => v_term6 0 s1)
theorem v_sum6 {a : xH} (v : Int32) (h : vS R t B a) : vO R t B (f_RuleReader_readSum_l6 v a) a := by
  have e : f_RuleReader_readSum_l6 v a = some a := by
    refine whl_en ?_
    show (if (400 : Int32) ≤ v then some (Sum.inr a) else (f_Tape_isWell a).bind (fun r5 => if r5 = 0 then some (Sum.inr a) else _)) = _
    rw [c_well, Option.bind_some, if_neg h.2.2, if_pos rfl]
    split <;> rfl
  rw [e]
  exact v_s h
theorem v_sum {a : xH} (h : vS R t B a) : vO R t B (f_RuleReader_readSum a) a := by
  have e : f_RuleReader_readSum a = (f_RuleReader_readTerm a).bind (fun h3 => f_RuleReader_readSum_l6 0 h3) := rfl
  rw [e]
  exact v_bind (v_term h) (fun a1 s1 => v_sum6 0 s1)
theorem v_b51 {a : xH} (v : Int32) (h : vS R t B a) : vO R t B (f_RuleReader_readComparison_b51 v a) a := by
  have e : f_RuleReader_readComparison_b51 v a = (f_Tape_goOn (xsI a 3 3 0 (a.1 3 3 0 + 1))).bind (fun h17 => (f_RuleReader_readSum h17).bind (fun h20 => (h20.2.2.1 3 1 0).bind (fun i => (f_Rule_add i v h20).bind (fun h24 => some h24)))) := rfl
  rw [e]
  exact v_3 (v := a.1 3 3 0 + 1) h (fun h => v_bind (v_goOn h) (fun a1 s1 => v_bind (v_sum s1) (fun a2 s2 => v_addR v s2 (fun a3 s3 => v_s s3))))
theorem v_close {a : xH} (h : vS R t B a) : vO R t B (f_RuleReader_readClosing a) a := by
  have e : f_RuleReader_readClosing a = (f_Tape_isSign 93 a).bind (fun r1 => if r1 = 0 then (f_Tape_fail 0 a).bind (fun h6 => some h6) else (f_Tape_goOn a).bind (fun h9 => some h9)) := rfl
  obtain ⟨p, tp⟩ := h.2.1
  rw [e, show (93 : Int32) = nI 93 from rfl, c_isSignT (s := 93) tp (by decide) (by decide) (by decide), Option.bind_some]
  split
  · exact v_bind (v_goOn h) (fun a1 s1 => v_s s1)
  · exact v_bind (v_fail 0 h) (fun a1 s1 => v_s s1)
