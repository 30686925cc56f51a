/-! PURE: a State copied, an act kept: the class's side -/
theorem rdA_s {h : xH} {c i : Nat} {f : Nat → Int32} : (xsA h c i f).2.2.2.1 c i = f := xw_s
theorem rdA_n {h : xH} {c i c' i' : Nat} {f : Nat → Int32} (hn : ¬ (c' = c ∧ i' = i)) : (xsA h c i f).2.2.2.1 c' i' = h.2.2.2.1 c' i' := xw_n hn
theorem rdA_I {h : xH} {c i : Nat} {f : Nat → Int32} : (xsA h c i f).1 = h.1 := rfl
theorem rdI_n {h : xH} {c k i : Nat} {v : Int32} {c' k' i' : Nat} (hn : ¬ (c' = c ∧ i' = i)) : (xsI h c k i v).1 c' k' i' = h.1 c' k' i' := by
  by_cases hk : c' = c ∧ k' = k
  · obtain ⟨rfl, rfl⟩ := hk
    exact rdI_i (fun z => hn ⟨rfl, z⟩)
  · exact rdI hk
/-- State a has become what State b is; nothing else has changed -/
def cpSt (h h1 : xH) (a b : Nat) : Prop :=
  (∀ k, k < 4 → h1.1 6 k a = h.1 6 k b) ∧ (∀ c k i, ¬ (c = 6 ∧ i = a) → h1.1 c k i = h.1 c k i) ∧ (∀ f, 29 ≤ f → f ≤ 32 → ∀ k, k < 8 → h1.2.2.2.1 f a k = h.2.2.2.1 f b k) ∧ (∀ f i, ¬ (29 ≤ f ∧ f ≤ 32 ∧ i = a) → h1.2.2.2.1 f i = h.2.2.2.1 f i) ∧ h1.2.2.1 = h.2.2.1 ∧ h1.2.2.2.2 = h.2.2.2.2 ∧ h1.2.1 = h.2.1
theorem c_copyFrom {h : xH} {a b : Nat} (hab : a ≠ b) : ∃ h1, f_State_copyFrom a b h = some h1 ∧ cpSt h h1 a b := by
  refine ⟨_, rfl, ?_⟩
  have cp : ∀ (f g : Nat → Int32) (k : Nat), k < 8 → va_cpy f g ((0 : Int32)).toNatClampNeg ((0 : Int32)).toNatClampNeg ((8 : Int32)).toNatClampNeg k = f k := by
    intro f g k hk
    show (if 0 ≤ k ∧ k < 0 + 8 then f (0 + (k - 0)) else g k) = f k
    rw [if_pos ⟨Nat.zero_le _, by omega⟩]
    congr 1
    omega
  refine ⟨fun k hk => ?_, fun c k i hn => ?_, fun f h1 h2 k hk => ?_, fun f i hn => ?_, rfl, rfl, rfl⟩
  · rcases (show k = 0 ∨ k = 1 ∨ k = 2 ∨ k = 3 by omega) with rfl | rfl | rfl | rfl
    · simp [xsA, xsI, xw, upd]
    · simp [xsA, xsI, xw, upd, hab, Ne.symm hab]
    · simp [xsA, xsI, xw, upd, hab, Ne.symm hab]
    · simp [xsA, xsI, xw, upd, hab, Ne.symm hab]
  · exact (rdI_n hn).trans ((rdI_n hn).trans ((rdI_n hn).trans (rdI_n hn)))
  · have hba : ¬ b = a := fun z => hab z.symm
    rcases (show f = 29 ∨ f = 30 ∨ f = 31 ∨ f = 32 by omega) with rfl | rfl | rfl | rfl
    · rw [rdA_n (by omega), rdA_n (by omega), rdA_n (by omega), rdA_s, cp _ _ k hk]; rfl
    · rw [rdA_n (by omega), rdA_n (by omega), rdA_s, cp _ _ k hk, rdA_n (by omega)]; rfl
    · rw [rdA_n (by omega), rdA_s, cp _ _ k hk, rdA_n (by omega), rdA_n (by omega)]; rfl
    · rw [rdA_s, cp _ _ k hk, rdA_n (by omega), rdA_n (by omega), rdA_n (by omega)]; rfl
  · rw [rdA_n (by omega), rdA_n (by omega), rdA_n (by omega), rdA_n (by omega)]; rfl
/-- the acts that the class keeps: the j-th eldest stands for pa j -/
def paC (h : xH) (n u x : Nat) (pa : Nat → Nat → Int32) : Prop := u ≤ 20 ∧ x < 20 ∧ h.1 1 2 0 = nI u ∧ h.1 1 1 0 = nI x ∧ ∀ j, j < u → stR h (5 + (x + 20 - u + j) % 20) (pa j) n
/-- one act more -/
def paAdd (u : Nat) (pa : Nat → Nat → Int32) (V : Nat → Int32) : Nat → Nat → Int32 := fun j => if u < 20 then (if j < u then pa j else V) else (if j < 19 then pa (j + 1) else V)
/-- what an act leaves but the State where it was kept -/
def kept (h h1 : xH) (x : Nat) : Prop :=
  (∀ c k i, ¬ (c = 6 ∧ i = 5 + x) → ¬ c = 1 → h1.1 c k i = h.1 c k i) ∧ (∀ f i, ¬ (29 ≤ f ∧ f ≤ 32 ∧ i = 5 + x) → h1.2.2.2.1 f i = h.2.2.2.1 f i) ∧ h1.2.2.1 = h.2.2.1 ∧ h1.2.2.2.2 = h.2.2.2.2 ∧ h1.2.1 = h.2.1
theorem c_keep {h : xH} {n u x : Nat} {V : Nat → Int32} {pa : Nat → Nat → Int32} (h8 : n ≤ 8) (hs : stR h 0 V n) (hp : paC h n u x pa) : ∃ h1, f_Past_keep 0 h = some h1 ∧ stR h1 0 V n ∧ paC h1 n (min 20 (u + 1)) ((x + 1) % 20) (paAdd u pa V) ∧ kept h h1 x := by
  obtain ⟨u20, x20, p2, p1, pj⟩ := hp
  obtain ⟨g1, e1, c1, c2, c3, c4, c5, c6, c7⟩ := c_copyFrom (h := h) (a := 5 + x) (b := 0) (by omega)
  have q1 : g1.1 1 1 0 = nI x := by rw [c2 1 1 0 (by omega)]; exact p1
  have q2 : g1.1 1 2 0 = nI u := by rw [c2 1 2 0 (by omega)]; exact p2
  have er : (nI x + 1) - (nI x + 1) / 20 * 20 = nI ((x + 1) % 20) := by
    rw [nI_1]
    exact pk_rem (a := x + 1) (d := 20) (by omega) (by decide) (by decide)
  have em : ∀ hh : xH, f_Math_min 20 (nI u + 1) hh = some (nI (min 20 (u + 1))) := by
    intro hh
    show (if nI u + 1 < 20 then some (nI u + 1) else some (20 : Int32)) = _
    rw [nI_1]
    by_cases hu : u + 1 < 20
    · rw [if_pos (show nI (u + 1) < (20 : Int32) from (nI_lt hu (by decide) : nI (u + 1) < nI 20)), Nat.min_eq_right (by omega)]
    · rw [if_neg (show ¬ nI (u + 1) < (20 : Int32) from (nI_nlt (by omega) (by omega) : ¬ nI (u + 1) < nI 20)), Nat.min_eq_left (by omega)]
      rfl
  have run : f_Past_keep 0 h = some (xsI (xsI g1 1 1 0 (nI ((x + 1) % 20))) 1 2 0 (nI (min 20 (u + 1)))) := by
    show (if h.1 1 1 0 < 0 then f_Past_keep_b16 0 h else if h.1 1 1 0 < 20 then f_Past_keep_b21 0 h else f_Past_keep_b16 0 h) = _
    rw [p1, if_neg (nI_pos (by omega)), if_pos (show nI x < (20 : Int32) from (nI_lt x20 (by decide) : nI x < nI 20))]
    show (if xib (h.1 1 1 0) 20 then (f_State_copyFrom (5 + (h.1 1 1 0).toNatClampNeg) 0 h).bind (fun h6 => (f_Math_min 20 ((xsI h6 1 1 0 ((h6.1 1 1 0 + 1) - (h6.1 1 1 0 + 1) / 20 * 20)).1 1 2 0 + 1) (xsI h6 1 1 0 ((h6.1 1 1 0 + 1) - (h6.1 1 1 0 + 1) / 20 * 20))).bind (fun r8 => some (xsI (xsI h6 1 1 0 ((h6.1 1 1 0 + 1) - (h6.1 1 1 0 + 1) / 20 * 20)) 1 2 0 r8))) else none) = _
    rw [p1, if_pos (xibN x20 (by decide)), nI_clamp (by omega), e1]
    show (f_Math_min 20 ((xsI g1 1 1 0 ((g1.1 1 1 0 + 1) - (g1.1 1 1 0 + 1) / 20 * 20)).1 1 2 0 + 1) (xsI g1 1 1 0 ((g1.1 1 1 0 + 1) - (g1.1 1 1 0 + 1) / 20 * 20))).bind _ = _
    rw [q1, er, rdI (by decide), q2, em]
    rfl
  have eI : ∀ c k i, ¬ c = 1 → (xsI (xsI g1 1 1 0 (nI ((x + 1) % 20))) 1 2 0 (nI (min 20 (u + 1)))).1 c k i = g1.1 c k i := fun c k i hc => by rw [rdI (by omega), rdI (by omega)]
  have hx : stR g1 (5 + x) V n := stR_of c1 (fun f h1 h2 k hk => c3 f h1 h2 k (by omega)) hs
  have ho : ∀ i, i ≠ 5 + x → ∀ W, stR h i W n → stR g1 i W n := fun i hi W hr => stR_of (fun k _ => c2 6 k i (by omega)) (fun f h1 h2 k _ => by rw [c4 f i (by omega)]) hr
  have up : ∀ i W, stR g1 i W n → stR (xsI (xsI g1 1 1 0 (nI ((x + 1) % 20))) 1 2 0 (nI (min 20 (u + 1)))) i W n := fun i W hr => stR_of (fun k _ => eI 6 k i (by decide)) (fun _ _ _ _ _ => rfl) hr
  refine ⟨_, run, up 0 V (ho 0 (by omega) V hs), ⟨Nat.min_le_left _ _, Nat.mod_lt _ (by decide), rdI_s, by rw [rdI (by decide), rdI_s], fun j hj => up _ _ ?_⟩, fun c k i h1 h2 => by rw [eI c k i h2, c2 c k i h1], fun f i hn => c4 f i hn, c5, c6, c7⟩
  unfold paAdd
  by_cases hu : u < 20
  · rw [if_pos hu]
    rw [Nat.min_eq_right (by omega)] at hj ⊢
    by_cases hju : j < u
    · rw [if_pos hju, show ((x + 1) % 20 + 20 - (u + 1) + j) % 20 = (x + 20 - u + j) % 20 by omega]
      exact ho _ (by omega) _ (pj j hju)
    · rw [if_neg hju, show ((x + 1) % 20 + 20 - (u + 1) + j) % 20 = x by omega]
      exact hx
  · rw [if_neg hu]
    rw [Nat.min_eq_left (by omega)] at hj ⊢
    by_cases hj9 : j < 19
    · rw [if_pos hj9, show ((x + 1) % 20 + 20 - 20 + j) % 20 = (x + 20 - u + (j + 1)) % 20 by omega]
      exact ho _ (by omega) _ (pj (j + 1) (by omega))
    · rw [if_neg hj9, show ((x + 1) % 20 + 20 - 20 + j) % 20 = x by omega]
      exact hx
