/-! PURE: rule: a fact, both sides -/
def exP (a b a' b' : xH) (R L C k : Nat) (l : List (Nat × Nat)) (π : List Nat) (k' : Nat) : Prop := apC a a' R L (l ++ tk0 π) ∧ apM b b' R C l ∧ a'.1 3 3 0 = nI k' ∧ b'.1 12 12 0 = nI k' ∧ k' ≤ 60 ∧ k + np l ≤ k'
/-- a fact is read: both are behind it, or both have failed -/
def fo (t : Nat) (B : Nat → Nat) (R : Nat) (a b a' : xH) (X : Option (Int32 × xH)) (L C k p d : Nat) (S : List Nat) : Prop := (a'.1 7 9 0 = 0 ∧ ∃ b' l k' p', X = mG b' ∧ b'.1 12 9 0 = 0 ∧ ex a b a' b' R L C k l k' ∧ l.length + p ≤ p' ∧ p < p' ∧ sy a' b' t B p' ∧ exT l ∧ tz b' d S ∧ tfM R b b') ∨ ∃ b', X = some (0, b') ∧ fk a' b' t B ∧ tfM R b b'
/-- a test is read: the reference has π yet to lay down -/
def go (t : Nat) (B : Nat → Nat) (R : Nat) (a b a' : xH) (X : Option (Int32 × xH)) (L C k p d : Nat) (S : List Nat) : Prop := (a'.1 7 9 0 = 0 ∧ ∃ b' l π k' p', X = mG b' ∧ b'.1 12 9 0 = 0 ∧ exP a b a' b' R L C k l π k' ∧ l.length + π.length + p ≤ p' ∧ p < p' ∧ sy a' b' t B p' ∧ exT (l ++ tk0 π) ∧ tz b' d (π ++ S) ∧ tfM R b b' ∧ (∀ x, x ∈ π → x = 12 ∨ x = 13) ∧ π.length + S.length ≤ p' ∧ ¬ isWd B t p' 17 ∧ ¬ isWd B t p' 18) ∨ ∃ b', X = some (0, b') ∧ fk a' b' t B ∧ tfM R b b'
def FACT (t : Nat) (B : Nat → Nat) (R n : Nat) : Prop := ∀ v a b p L C k S, 11 ≤ n + v → v ≤ 10 → sy a b t B p → a.1 7 9 0 = 0 → b.1 12 9 0 = 0 → rz a b R L C k → L ≤ p → S.length ≤ p → tz b v S → ∃ a', f_RuleReader_rF n (nI v) a = some a' ∧ sfC R a a' ∧ fo t B R a b a' (mF b) L C k p v S
def TEST (t : Nat) (B : Nat → Nat) (R n : Nat) : Prop := ∀ v a b p L C k S, 11 ≤ n + v → v ≤ 10 → sy a b t B p → a.1 7 9 0 = 0 → b.1 12 9 0 = 0 → rz a b R L C k → L ≤ p → S.length ≤ p → tz b v S → (∀ x T, S = x :: T → x = 91) → ∃ a', f_RuleReader_readTest (f_RuleReader_readPart (f_RuleReader_rF n)) (nI v) a = some a' ∧ sfC R a a' ∧ go t B R a b a' (mF b) L C k p v S
theorem tk0_len {π : List Nat} : (tk0 π).length = π.length := List.length_map ..
theorem rz_pu {a b a' b' : xH} {R L C k : Nat} (h : rz a b R L C k) (f : tpF a a') (e : a'.2 = a.2) (u : pu R b b') : rz a' b' R L C k := by
  obtain ⟨h1, h2, h3, h4, h5, h6, h7, h8, h9⟩ := h
  exact ⟨by rw [e]; exact h1, h2, (f.1 2 2 R (by omega)).trans h3, (u.2.1 11 (by decide)).trans h4, by rw [u.2.2 49 (by decide)]; exact h5, (f.1 3 3 0 (by decide)).trans h6, (u.2.1 12 (by decide)).trans h7, h8, h9⟩
theorem FACT_0 {t R : Nat} {B : Nat → Nat} : FACT t B R 0 := fun v a b p L C k S h1 h2 => absurd h1 (by omega)
theorem c_factE {cT cF : Int32 → xH → Option xH} {v : Int32} {a : xH} : f_RuleReader_readFact cT cF v a = (f_Tape_isWord 19 a).bind (fun r1 => if r1 = 0 then (f_Tape_isSign 91 a).bind (fun r4 => if r4 = 0 then (f_RuleReader_readComparison a).bind (fun h9 => some h9) else f_RuleReader_readFact_b31 cT cF v r1 a) else f_RuleReader_readFact_b31 cT cF v r1 a) := rfl
theorem c_fact31 {cT cF : Int32 → xH → Option xH} {v w : Int32} {a : xH} : f_RuleReader_readFact_b31 cT cF v w a = (if v < 10 then (f_Tape_goOn a).bind (fun h13 => if w = 0 then (cT (v + 1) h13).bind (fun h17 => (f_RuleReader_readClosing h17).bind (fun h20 => some h20)) else (cF (v + 1) h13).bind (fun h23 => (h23.2.2.1 3 1 0).bind (fun i => (f_Rule_add i 24 h23).bind (fun h27 => some h27)))) else (f_Tape_fail 2 a).bind (fun h30 => some h30)) := rfl
/-- the comparison -/
theorem fact_cmp {t R v p L C k : Nat} {B : Nat → Nat} {a b : xH} {S : List Nat} (hs : sy a b t B p) (fa : a.1 7 9 0 = 0) (fb : b.1 12 9 0 = 0) (hz : rz a b R L C k) (hL : L ≤ p) (ht : tz b v S) (nw : ¬ isWd B t p 19) (nB : ¬ (p < t ∧ B p = 91)) : ∃ a', f_RuleReader_readComparison a = some a' ∧ sfC R a a' ∧ fo t B R a b a' (mF b) L C k p v S := by
  obtain ⟨tt, q, hm, hq⟩ := id hs
  have pt := tR_le tt
  have hp : rn isSB B t p = p := by rw [← hq]; exact rn_id
  obtain ⟨h, eh⟩ : ∃ h, h = xsI b 12 8 0 (nI p) := ⟨_, rfl⟩
  have bh : sfM R b h := by rw [eh]; exact sfM_I (by omega)
  have zh : rz a h R L C k := rz_of hz rfl (fun _ => rfl) rfl (by rw [eh, rdI (by decide)]) (by rw [eh, rdI (by decide)]) (by rw [eh]; rfl)
  have eF := m_Fcmp hm hq nw nB
  rw [← eh] at eF
  obtain ⟨a', r, b', ea, eb, f1, g1, o⟩ := lk_cmp (a := a) (b := h) ⟨tt, p, by rw [eh]; exact mat_s hm pt, hp⟩ fa (by rw [eh, rdI (by decide)]; exact fb) zh hL
  refine ⟨a', ea, f1, ?_⟩
  rw [eF, eb, Option.bind_some]
  rcases o with ⟨rfl, x1, x2, l, k', p', x3, x4, x5, x6, x7⟩ | ⟨rfl, x1⟩
  · rw [nrm_01 (Or.inr rfl), Option.bind_some]
    exact Or.inl ⟨x1, b', l, k', p', if_neg i1, x2, ex_of (c := a) (d := h) (fun _ => rfl) rfl (by rw [eh]; rfl) x3, x4, x5, x6, x7, tz_f (sfM_t bh g1) ht, tfM_s (sfM_t bh g1)⟩
  · rw [nrm_01 (Or.inl rfl), Option.bind_some]
    exact Or.inr ⟨b', if_pos rfl, x1, tfM_s (sfM_t bh g1)⟩
