/-! PURE: what a rule reckons, as rows of signs (s, v) over a stack -/
theorem whl_st {σ ρ : Type} {step : σ → Option (σ ⊕ ρ)} {s s' : σ} (h : step s = some (Sum.inl s')) : whl step s = whl step s' := by
  rw [whl_eq, h]; rfl
theorem whl_en {σ ρ : Type} {step : σ → Option (σ ⊕ ρ)} {s : σ} {x : ρ} (h : step s = some (Sum.inr x)) : whl step s = some x := by
  rw [whl_eq, h]; rfl
theorem rdB_s {h : xH} {c i : Nat} {f : Nat → Int64} : (xsB h c i f).2.2.2.2 c i = f := xw_s
theorem rdB_n {h : xH} {c i c' i' : Nat} {f : Nat → Int64} (hn : ¬ (c' = c ∧ i' = i)) : (xsB h c i f).2.2.2.2 c' i' = h.2.2.2.2 c' i' := xw_n hn
theorem uL_s {f : Nat → Int64} {k : Nat} {x : Int64} : vp_updL f k x k = x := if_pos rfl
theorem uL_n {f : Nat → Int64} {k j : Nat} {x : Int64} (h : j ≠ k) : vp_updL f k x j = f j := if_neg h
def tkG (t : Nat × Nat) : Prop := t.1 ≤ 14 ∧ t.2 < 100000 ∧ (t.1 = 1 → t.2 < 12)
/-- the sign as the reference writes it -/
def tI (t : Nat × Nat) : Int32 := nI (t.1 + 16 * t.2)
theorem tI_s {t : Nat × Nat} (h : tkG t) : tI t &&& 15 = nI t.1 := by
  obtain ⟨h1, h2, -⟩ := h
  show nI (t.1 + 16 * t.2) &&& 15 = _
  rw [pk_and (nI (t.1 + 16 * t.2)) (m := 15) 4 (by decide), pk_tn (by omega), show (t.1 + 16 * t.2) % 2 ^ 4 = t.1 by omega]
theorem tI_v {t : Nat × Nat} (h : tkG t) : tI t >>> ((4 : Int32) &&& 31) = nI t.2 := by
  obtain ⟨h1, h2, -⟩ := h
  show nI (t.1 + 16 * t.2) >>> ((4 : Int32) &&& 31) = _
  apply Int32.toInt_inj.mp
  rw [pk_shr _ _ 4 (by decide), nI_toInt (by omega), nI_toInt (by omega), Int.shiftRight_eq_div_pow]
  omega
/-- the piece of code that the class has for it -/
def cN (t : Nat × Nat) : Nat := if t.1 = 0 then 100 + t.2 else if t.1 = 1 then t.2 else if t.1 ≤ 5 then t.1 + 10 else if t.1 ≤ 10 then t.1 + 11 else if t.1 = 11 then 24 else if t.1 = 12 then 22 else if t.1 = 13 then 23 else 16
def opI (s : Nat) (x y : Int64) : Int64 :=
  if s = 2 then x + y else if s = 3 then x - y else if s = 4 then x * y else if s = 5 then (if y = 0 then 0 else x / y) else if s = 6 then (if (0 : Int32) ≤ lg_cmp x y then 0 else 1) else if s = 7 then (if (0 : Int32) < lg_cmp x y then 0 else 1) else if s = 8 then (if lg_cmp x y = 0 then 1 else 0) else if s = 9 then (if lg_cmp x y < 0 then 0 else 1) else if s = 10 then (if lg_cmp x y ≤ 0 then 0 else 1) else if s = 12 then x &&& y else if s = 13 then x ||| y else (if y = 0 then 0 else x - x / y * y)
def evT (w : Nat → Int64) (N : Nat) (t : Nat × Nat) (st : List Int64) : Option (List Int64) :=
  if t.1 = 0 then (if st.length < N then some ((nI t.2).toInt64 :: st) else none)
  else if t.1 = 1 then (if st.length < N then some (w t.2 :: st) else none)
  else if t.1 = 11 then (match st with | x :: r => some ((1 - x) :: r) | [] => none)
  else (match st with | y :: x :: r => some (opI t.1 x y :: r) | [_] => none | [] => none)
def evs (w : Nat → Int64) (N : Nat) : List (Nat × Nat) → List Int64 → Option (List Int64)
  | [], st => some st
  | t :: ts, st => (evT w N t st).bind (evs w N ts)
theorem evs_app {w : Nat → Int64} {N : Nat} {b : List (Nat × Nat)} : ∀ {a : List (Nat × Nat)} {st : List Int64}, evs w N (a ++ b) st = (evs w N a st).bind (evs w N b)
  | [], st => rfl
  | t :: a, st => by
    show (evT w N t st).bind (evs w N (a ++ b)) = ((evT w N t st).bind (evs w N a)).bind (evs w N b)
    cases evT w N t st with
    | none => rfl
    | some s => exact evs_app (a := a)
theorem evT_len {w : Nat → Int64} {N : Nat} {t : Nat × Nat} {st st' : List Int64} (h : evT w N t st = some st') (hl : st.length ≤ N) : st'.length ≤ N := by
  unfold evT at h
  split at h
  · split at h
    · cases h
      show st.length + 1 ≤ N
      omega
    · cases h
  · split at h
    · split at h
      · cases h
        show st.length + 1 ≤ N
        omega
      · cases h
    · split at h
      · cases st with
        | nil => cases h
        | cons x r => cases h; exact hl
      · cases st with
        | nil => cases h
        | cons y r =>
          cases r with
          | nil => cases h
          | cons x r =>
            cases h
            have : r.length + 1 + 1 ≤ N := hl
            show r.length + 1 ≤ N
            omega
/-- more below -/
theorem evT_low {w : Nat → Int64} {N : Nat} {t : Nat × Nat} {st st' : List Int64} (b : Int64) (h : evT w N t st = some st') : evT w (N + 1) t (st ++ [b]) = some (st' ++ [b]) := by
  have el : (st ++ [b]).length = st.length + 1 := by simp
  unfold evT at h ⊢
  rw [el]
  split at h
  · next h0 =>
    rw [if_pos h0]
    split at h
    · next hl =>
      cases h
      rw [if_pos (by omega)]
      rfl
    · cases h
  · next h0 =>
    rw [if_neg h0]
    split at h
    · next h1 =>
      rw [if_pos h1]
      split at h
      · next hl =>
        cases h
        rw [if_pos (by omega)]
        rfl
      · cases h
    · next h1 =>
      rw [if_neg h1]
      split at h
      · next h2 =>
        rw [if_pos h2]
        cases st with
        | nil => cases h
        | cons x r => cases h; rfl
      · next h2 =>
        rw [if_neg h2]
        cases st with
        | nil => cases h
        | cons y r =>
          cases r with
          | nil => cases h
          | cons x r => cases h; rfl
theorem evs_low {w : Nat → Int64} {N : Nat} (b : Int64) : ∀ {ts : List (Nat × Nat)} {st st' : List Int64}, evs w N ts st = some st' → evs w (N + 1) ts (st ++ [b]) = some (st' ++ [b])
  | [], st, st', h => by
    have : st = st' := Option.some.inj h
    rw [this]
    rfl
  | t :: ts, st, st', h => by
    have h' : (evT w N t st).bind (evs w N ts) = some st' := h
    show (evT w (N + 1) t (st ++ [b])).bind (evs w (N + 1) ts) = some (st' ++ [b])
    cases he : evT w N t st with
    | none => rw [he] at h'; cases h'
    | some s1 =>
      rw [he] at h'
      rw [evT_low b he]
      exact evs_low b h'
/-- the words that a row of signs doesn't ask don't count -/
def asks (t : Nat × Nat) : Prop := t.1 = 1 ∧ (t.2 = 7 ∨ t.2 = 10 ∨ t.2 = 11)
theorem evs_w {w w' : Nat → Int64} {N : Nat} (hw : ∀ v, v ≠ 7 → v ≠ 10 → v ≠ 11 → w v = w' v) : ∀ {ts : List (Nat × Nat)} {st : List Int64}, (∀ t, t ∈ ts → ¬ asks t) → evs w N ts st = evs w' N ts st
  | [], st, _ => rfl
  | t :: ts, st, h => by
    have e : evT w N t st = evT w' N t st := by
      unfold evT
      by_cases h1 : t.1 = 1
      · have : w t.2 = w' t.2 := by
          have na := h t List.mem_cons_self
          exact hw t.2 (fun z => na ⟨h1, Or.inl z⟩) (fun z => na ⟨h1, Or.inr (Or.inl z)⟩) (fun z => na ⟨h1, Or.inr (Or.inr z)⟩)
        rw [this]
      · rw [if_neg h1, if_neg h1]
    show (evT w N t st).bind (evs w N ts) = (evT w' N t st).bind (evs w' N ts)
    rw [e]
    cases evT w' N t st with
    | none => rfl
    | some s => exact evs_w hw (fun t ht => h t (List.mem_cons_of_mem _ ht))
/-- a stack in a row -/
def skR (B : Nat → Int64) : List Int64 → Prop
  | [] => True
  | x :: r => B r.length = x ∧ skR B r
theorem skR_hi {B : Nat → Int64} {k : Nat} {x : Int64} : ∀ {r : List Int64}, r.length ≤ k → skR B r → skR (vp_updL B k x) r
  | [], _, _ => trivial
  | y :: r, hk, h => by
    have hk' : r.length + 1 ≤ k := hk
    exact ⟨(uL_n (by omega)).trans h.1, skR_hi (by omega) h.2⟩
theorem skR_put {B : Nat → Int64} {x : Int64} {r : List Int64} (h : skR B r) : skR (vp_updL B r.length x) (x :: r) := ⟨uL_s, skR_hi (Nat.le_refl _) h⟩
theorem m_one {h : xH} {s : Nat} {x y : Int64} (h2 : 2 ≤ s) (h14 : s ≤ 14) (h11 : s ≠ 11) : f_M_one (nI s) x y h = some (opI s x y) := by
  rcases (show s = 2 ∨ s = 3 ∨ s = 4 ∨ s = 5 ∨ s = 6 ∨ s = 7 ∨ s = 8 ∨ s = 9 ∨ s = 10 ∨ s = 12 ∨ s = 13 ∨ s = 14 by omega) with rfl | rfl | rfl | rfl | rfl | rfl | rfl | rfl | rfl | rfl | rfl | rfl
  · rfl
  · rfl
  · rfl
  · show (if lg_cmp y 0 = 0 then some 0 else if ¬ y = 0 then some (x / y) else none) = some (if y = 0 then 0 else x / y)
    by_cases hy : y = 0
    · rw [if_pos ((lg_cmp_eq y 0).mpr hy), if_pos hy]
    · rw [if_neg (fun z => hy ((lg_cmp_eq y 0).mp z)), if_pos hy, if_neg hy]
  · show (if (0 : Int32) ≤ lg_cmp x y then some 0 else some 1) = some (if (0 : Int32) ≤ lg_cmp x y then (0 : Int64) else 1)
    split <;> rfl
  · show (if (0 : Int32) < lg_cmp x y then some 0 else some 1) = some (if (0 : Int32) < lg_cmp x y then (0 : Int64) else 1)
    split <;> rfl
  · show (if lg_cmp x y = 0 then some 1 else some 0) = some (if lg_cmp x y = 0 then (1 : Int64) else 0)
    split <;> rfl
  · show (if lg_cmp x y < 0 then some 0 else some 1) = some (if lg_cmp x y < 0 then (0 : Int64) else 1)
    split <;> rfl
  · show (if lg_cmp x y ≤ 0 then some 0 else some 1) = some (if lg_cmp x y ≤ 0 then (0 : Int64) else 1)
    split <;> rfl
  · rfl
  · rfl
  · show (if lg_cmp y 0 = 0 then some 0 else if ¬ y = 0 then some (x - x / y * y) else none) = some (if y = 0 then 0 else x - x / y * y)
    by_cases hy : y = 0
    · rw [if_pos ((lg_cmp_eq y 0).mpr hy), if_pos hy]
    · rw [if_neg (fun z => hy ((lg_cmp_eq y 0).mp z)), if_pos hy, if_neg hy]
theorem c_joined {h : xH} {s v : Nat} {x y : Int64} (h2 : 2 ≤ s) (h14 : s ≤ 14) (h11 : s ≠ 11) : f_Rule_joined (nI (cN (s, v))) x y h = some (opI s x y) := by
  rcases (show s = 2 ∨ s = 3 ∨ s = 4 ∨ s = 5 ∨ s = 6 ∨ s = 7 ∨ s = 8 ∨ s = 9 ∨ s = 10 ∨ s = 12 ∨ s = 13 ∨ s = 14 by omega) with rfl | rfl | rfl | rfl | rfl | rfl | rfl | rfl | rfl | rfl | rfl | rfl
  · rfl
  · rfl
  · rfl
  · show (if lg_cmp y 0 = 0 then some 0 else if ¬ y = 0 then some (x / y) else none) = some (if y = 0 then 0 else x / y)
    by_cases hy : y = 0
    · rw [if_pos ((lg_cmp_eq y 0).mpr hy), if_pos hy]
    · rw [if_neg (fun z => hy ((lg_cmp_eq y 0).mp z)), if_pos hy, if_neg hy]
  · show (if (0 : Int32) ≤ lg_cmp x y then some 0 else some 1) = some (if (0 : Int32) ≤ lg_cmp x y then (0 : Int64) else 1)
    split <;> rfl
  · show (if (0 : Int32) < lg_cmp x y then some 0 else some 1) = some (if (0 : Int32) < lg_cmp x y then (0 : Int64) else 1)
    split <;> rfl
  · show (if lg_cmp x y = 0 then some 1 else some 0) = some (if lg_cmp x y = 0 then (1 : Int64) else 0)
    split <;> rfl
  · show (if lg_cmp x y < 0 then some 0 else some 1) = some (if lg_cmp x y < 0 then (0 : Int64) else 1)
    split <;> rfl
  · show (if lg_cmp x y ≤ 0 then some 0 else some 1) = some (if lg_cmp x y ≤ 0 then (0 : Int64) else 1)
    split <;> rfl
  · rfl
  · rfl
  · show (if lg_cmp y 0 = 0 then some 0 else if ¬ y = 0 then some (x - x / y * y) else none) = some (if y = 0 then 0 else x - x / y * y)
    by_cases hy : y = 0
    · rw [if_pos ((lg_cmp_eq y 0).mpr hy), if_pos hy]
    · rw [if_neg (fun z => hy ((lg_cmp_eq y 0).mp z)), if_pos hy, if_neg hy]
