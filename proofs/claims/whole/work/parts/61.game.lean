/-! PURE: game -/
theorem bit_ge {s k : Nat} (h : s.testBit k = true) : 2 ^ k ≤ s := by
  by_cases hs : s < 2 ^ k
  · rw [Nat.testBit_lt_two_pow hs] at h; cases h
  · omega
/-- one move more looked at -/
def gmF (D : Nat → Int32) (U : Nat → Nat) (T : Nat → Int32) (s k : Nat) (b : Int32 × Option Nat) : Int32 × Option Nat :=
  if s.testBit k = true ∧ U k &&& s = 0 then (if b.2 = none ∨ b.1 < D k - T (s - 2 ^ k) then (D k - T (s - 2 ^ k), some k) else b) else b
def gmT (D : Nat → Int32) (U : Nat → Nat) (n : Nat) : Nat → Nat → Int32
  | 0 => fun _ => 0
  | s + 1 => upd (gmT D U n s) s (fold (gmF D U (gmT D U n s) s) (0, none) n).1
def gmG (D : Nat → Int32) (U : Nat → Nat) (n s : Nat) : Int32 := gmT D U n (s + 1) s
/-- how much more, and by which move, from a set on -/
def gmB (D : Nat → Int32) (U : Nat → Nat) (n s : Nat) : Int32 × Option Nat := fold (gmF D U (gmG D U n) s) (0, none) n
theorem gmT_lt {D : Nat → Int32} {U : Nat → Nat} {n : Nat} : ∀ s s', s' < s → gmT D U n s s' = gmG D U n s'
  | 0, s', h => by omega
  | s + 1, s', h => by
    by_cases e : s' = s
    · subst e; rfl
    · show upd (gmT D U n s) s _ s' = _
      rw [pk_un e]
      exact gmT_lt s s' (by omega)
theorem gmG_e {D : Nat → Int32} {U : Nat → Nat} {n s : Nat} : gmG D U n s = (gmB D U n s).1 := by
  show upd (gmT D U n s) s (fold (gmF D U (gmT D U n s) s) (0, none) n).1 s = _
  rw [pk_us]
  refine congrArg Prod.fst (fold_congr (fun k hk t => ?_))
  unfold gmF
  by_cases c : s.testBit k = true ∧ U k &&& s = 0
  · have h1 := bit_ge c.1
    have h2 : 0 < 2 ^ k := Nat.pos_of_ne_zero (by simp)
    rw [gmT_lt s (s - 2 ^ k) (by omega)]
  · rw [if_neg c, if_neg c]
/-- only the class's own rows have changed -/
def gmS (h h' : xH) : Prop := (∀ c k i, ¬ (c = 5 ∧ i = 0 ∧ (k = 6 ∨ k = 7)) → h'.1 c k i = h.1 c k i) ∧ ∀ f i, ¬ (f = 25 ∧ i = 0) → h'.2.2.2.1 f i = h.2.2.2.1 f i
/-- and nothing but what is kept -/
def gmK (h h' : xH) (b : Int32 × Option Nat) : Prop := gmS h h' ∧ h'.2.2.2.1 25 0 = h.2.2.2.1 25 0 ∧ h'.1 5 6 0 = b.1 ∧ h'.1 5 7 0 = oI b.2
theorem oI_m1 {b : Option Nat} (hb : ∀ g, b = some g → g < 256) : oI b = -1 ↔ b = none := by
  cases b with
  | none => exact ⟨fun _ => rfl, fun _ => rfl⟩
  | some g => exact ⟨fun z => absurd z (nI_nm1 (by have := hb g rfl; omega)), fun z => by cases z⟩
theorem oI_neg {b : Option Nat} (hb : ∀ g, b = some g → g < 256) : oI b < 0 ↔ b = none := by
  cases b with
  | none => exact ⟨fun _ => rfl, fun _ => by decide⟩
  | some g => exact ⟨fun z => absurd z (nI_pos (by have := hb g rfl; omega)), fun z => by cases z⟩
theorem gm_lt {D : Nat → Int32} {U : Nat → Nat} {T : Nat → Int32} {s : Nat} : ∀ k, k ≤ 8 → ∀ g, (fold (gmF D U T s) (0, none) k).2 = some g → g < 256
  | 0, _, g, hg => by cases hg
  | k + 1, hk, g, hg => by
    have ih := gm_lt (D := D) (U := U) (T := T) (s := s) k (by omega) g
    have hg' : (gmF D U T s k (fold (gmF D U T s) (0, none) k)).2 = some g := hg
    unfold gmF at hg'
    split at hg'
    · split at hg'
      · cases hg'; omega
      · exact ih hg'
    · exact ih hg'
theorem c_keepMove {h h' : xH} {b : Int32 × Option Nat} {w : Int32} {k : Nat} (hb : ∀ g, b.2 = some g → g < 256) (hk : gmK h h' b) : ∃ h2, f_Sets_keepMove w (nI k) h' = some h2 ∧ gmK h h2 (if b.2 = none ∨ b.1 < w then (w, some k) else b) := by
  obtain ⟨⟨s1, s2⟩, k1, k2, k3⟩ := id hk
  have b16 : ∃ h2, f_Sets_keepMove_b16 w (nI k) h' = some h2 ∧ gmK h h2 (w, some k) := by
    refine ⟨_, rfl, ⟨fun c z i hn => ?_, fun f i hn => s2 f i hn⟩, k1, ?_, ?_⟩
    · rw [rdI_3 (by omega), rdI_3 (by omega)]; exact s1 c z i hn
    · rw [rdI (by decide), rdI_s]
    · rw [rdI_s]; rfl
  show ∃ h2, (if h'.1 5 7 0 = -1 then f_Sets_keepMove_b16 w (nI k) h' else if w ≤ h'.1 5 6 0 then some h' else f_Sets_keepMove_b16 w (nI k) h') = some h2 ∧ _
  rw [k2, k3]
  by_cases c1 : b.2 = none
  · rw [if_pos ((oI_m1 hb).mpr c1), if_pos (Or.inl c1)]
    exact b16
  · rw [if_neg (fun z => c1 ((oI_m1 hb).mp z))]
    by_cases c2 : b.1 < w
    · rw [if_neg (Int32.not_le.mpr c2), if_pos (Or.inr c2)]
      exact b16
    · rw [if_pos (Int32.not_lt.mp c2), if_neg (fun z => z.elim c1 c2)]
      exact ⟨h', rfl, hk⟩
theorem c_game43 {h : xH} {n s : Nat} {D T : Nat → Int32} {U : Nat → Nat} (h8 : n ≤ 8) (hs : s < 256) (hsn : ∀ o, s.testBit o = true → o < n) (hU : ∀ k, k < n → h.2.2.2.1 30 0 k = nI (U k) ∧ U k < 256) (hD : ∀ k, k < n → h.2.2.2.1 39 0 k = D k) (hT : ∀ k, s.testBit k = true → h.2.2.2.1 25 0 (s - 2 ^ k) = T (s - 2 ^ k)) (e6 : h.1 5 6 0 = 0) (e7 : h.1 5 7 0 = -1) : ∃ h2, f_Sets_findGame_l33 0 0 (nI s) 0 h = some (Sum.inl (nI (s + 1), h2)) ∧ gmS h h2 ∧ h2.2.2.2.1 25 0 = upd (h.2.2.2.1 25 0) s (fold (gmF D U T s) (0, none) n).1 ∧ h2.1 5 6 0 = (fold (gmF D U T s) (0, none) n).1 ∧ h2.1 5 7 0 = oI (fold (gmF D U T s) (0, none) n).2 := by
  have e8 : fold (gmF D U T s) (0, none) 8 = fold (gmF D U T s) (0, none) n := fold_ext 8 h8 (fun k h1 h2 t => if_neg (fun z => by have := hsn k z.1; omega))
  have key := whl_cntE (step := fun q : Int32 × xH => f_Sets_findGame_s33 0 0 (nI s) q.1 q.2) 8 (fun k q => q.1 = nI k ∧ gmK h q.2 (fold (gmF D U T s) (0, none) k)) (fun x => ∃ h2, x = Sum.inl (nI (s + 1), h2) ∧ gmS h h2 ∧ h2.2.2.2.1 25 0 = upd (h.2.2.2.1 25 0) s (fold (gmF D U T s) (0, none) n).1 ∧ h2.1 5 6 0 = (fold (gmF D U T s) (0, none) n).1 ∧ h2.1 5 7 0 = oI (fold (gmF D U T s) (0, none) n).2) ?_ ?_ (0, h) ⟨nI_0.symm, ⟨fun _ _ _ _ => rfl, fun _ _ _ => rfl⟩, rfl, e6, e7⟩
  · obtain ⟨x, e, h2, rfl, r⟩ := key
    exact ⟨h2, e, r⟩
  · rintro k hk ⟨q1, h'⟩ ⟨rfl, hq⟩
    left
    have hb := gm_lt (D := D) (U := U) (T := T) (s := s) k (by omega)
    show ∃ s', f_Sets_findGame_s33 0 0 (nI s) (nI k) h' = some (Sum.inl s') ∧ s'.1 = nI (k + 1) ∧ gmK h s'.2 (gmF D U T s k (fold (gmF D U T s) (0, none) k))
    generalize fold (gmF D U T s) (0, none) k = b at hb hq ⊢
    obtain ⟨⟨s1, s2⟩, k1, k2, k3⟩ := id hq
    unfold f_Sets_findGame_s33 gmF
    rw [if_neg (show ¬ (8 : Int32) ≤ nI k from nI_ge (b := 8) hk (by decide)), c_has hs hk, Option.bind_some]
    by_cases c1 : s.testBit k = true
    · have hkn := hsn k c1
      have eu : ((h'.2.2.2.1 30 0 (nI k).toNatClampNeg) &&& nI s = 0) ↔ U k &&& s = 0 := by
        rw [nI_clamp (by omega), s2 30 0 (by omega), (hU k hkn).1]
        exact sb_and0 _ (hU k hkn).2 _ hs
      rw [if_pos c1, if_neg (by decide), if_pos (xibN hk (by decide))]
      by_cases c2 : U k &&& s = 0
      · have q : s.testBit k = true ∧ U k &&& s = 0 := ⟨c1, c2⟩
        have e1 := sb_clr s hs k hk c1
        have sl : s - 2 ^ k < 256 := Nat.lt_of_le_of_lt (Nat.sub_le _ _) hs
        have x1 : xib (nI s &&& (((1 : Int32) <<< (nI k &&& 31)) ^^^ (-1 : Int32))) 256 := by
          rw [e1]; exact xibN sl (by decide)
        have ew : (h'.2.2.2.1 39 0 (nI k).toNatClampNeg) - (h'.2.2.2.1 25 0 (nI s &&& (((1 : Int32) <<< (nI k &&& 31)) ^^^ (-1 : Int32))).toNatClampNeg) = D k - T (s - 2 ^ k) := by
          rw [e1, nI_clamp (show k < 2 ^ 31 by omega), nI_clamp (show s - 2 ^ k < 2 ^ 31 from Nat.lt_of_lt_of_le sl (by decide)), s2 39 0 (by omega), hD k hkn, k1, hT k c1]
        rw [if_pos (eu.mpr c2), if_pos (xibN hk (by decide)), if_pos x1, ew, if_pos q]
        obtain ⟨h2, e2, g2⟩ := c_keepMove (w := D k - T (s - 2 ^ k)) (k := k) hb hq
        rw [e2, Option.bind_some]
        exact ⟨_, rfl, nI_1 k, g2⟩
      · rw [if_neg (fun z => c2 (eu.mp z)), if_neg (fun z => c2 z.2)]
        exact ⟨_, rfl, nI_1 k, hq⟩
    · rw [if_neg c1, if_pos rfl, if_neg (fun z => c1 z.1)]
      exact ⟨_, rfl, nI_1 k, hq⟩
  · rintro ⟨q1, h'⟩ ⟨rfl, hq⟩
    rw [e8] at hq
    obtain ⟨⟨s1, s2⟩, k1, k2, k3⟩ := id hq
    show ∃ x, f_Sets_findGame_s33 0 0 (nI s) (nI 8) h' = some (Sum.inr x) ∧ _
    unfold f_Sets_findGame_s33 f_Sets_findGame_b94
    rw [if_pos (show (8 : Int32) ≤ nI 8 by decide), if_pos (xibN hs (by decide)), nI_clamp (by omega)]
    refine ⟨_, rfl, _, congrArg Sum.inl (congrArg (fun z => (z, _)) (nI_1 s)), ⟨fun c z i hn => s1 c z i hn, fun f i hn => ?_⟩, ?_, k2, k3⟩
    · rw [rdA_n hn]; exact s2 f i hn
    · rw [rdA_s, k1, k2]
theorem c_findGame {h : xH} {n a : Nat} {D : Nat → Int32} {U : Nat → Nat} (h8 : n ≤ 8) (ha : a < 256) (haN : ∀ o, a.testBit o = true → o < n) (e62 : h.1 6 2 0 = nI a) (hU : ∀ k, k < n → h.2.2.2.1 30 0 k = nI (U k) ∧ U k < 256) (hD : ∀ k, k < n → h.2.2.2.1 39 0 k = D k) : ∃ h2, f_Sets_findGame 0 0 h = some h2 ∧ gmS h h2 ∧ h2.1 5 6 0 = (gmB D U n a).1 ∧ h2.1 5 7 0 = oI (gmB D U n a).2 := by
  have key := whl_cntE (step := fun q : Int32 × xH => f_Sets_findGame_s2 0 0 q.1 q.2) 256 (fun s q => q.1 = nI s ∧ gmS h q.2 ∧ (∀ t, t < s → t &&& a = t → q.2.2.2.2.1 25 0 t = gmG D U n t) ∧ (a < s → q.2.1 5 6 0 = (gmB D U n a).1 ∧ q.2.1 5 7 0 = oI (gmB D U n a).2)) (fun h2 => gmS h h2 ∧ h2.1 5 6 0 = (gmB D U n a).1 ∧ h2.1 5 7 0 = oI (gmB D U n a).2) ?_ ?_ (0, h) ⟨nI_0.symm, ⟨fun _ _ _ _ => rfl, fun _ _ _ => rfl⟩, fun t ht => absurd ht (by omega), fun z => absurd z (by omega)⟩
  · exact key
  · rintro s hs ⟨q1, h'⟩ ⟨rfl, ⟨s1, s2⟩, tT, tA⟩
    left
    show ∃ s', f_Sets_findGame_s2 0 0 (nI s) h' = some (Sum.inl s') ∧ _
    unfold f_Sets_findGame_s2
    rw [if_neg (show ¬ (256 : Int32) ≤ nI s from nI_ge (b := 256) hs (by decide)), s1 6 2 0 (by omega), e62]
    by_cases c1 : s &&& a = s
    · rw [if_pos ((sb_sub s hs a ha).mpr c1)]
      have subA : ∀ o, s.testBit o = true → a.testBit o = true := fun o ho => by
        rw [← c1, Nat.testBit_and, Bool.and_eq_true] at ho
        exact ho.2
      obtain ⟨g, eg⟩ : ∃ g, g = xsI (xsI h' 5 7 0 (-1)) 5 6 0 0 := ⟨_, rfl⟩
      have g1 : ∀ c k i, ¬ (c = 5 ∧ i = 0 ∧ (k = 6 ∨ k = 7)) → g.1 c k i = h'.1 c k i := fun c k i hn => by rw [eg, rdI_3 (by omega), rdI_3 (by omega)]
      have g2 : g.2 = h'.2 := by rw [eg]; rfl
      obtain ⟨h2, e2, ⟨t1, t2⟩, t3, t4, t5⟩ := c_game43 (h := g) (D := D) (T := gmG D U n) (U := U) h8 hs (fun o ho => haN o (subA o ho)) (fun k hk => by rw [g2, s2 30 0 (by omega)]; exact hU k hk) (fun k hk => by rw [g2, s2 39 0 (by omega)]; exact hD k hk) (fun k hk => by
        have h1 := bit_ge hk
        have h2 : 0 < 2 ^ k := Nat.pos_of_ne_zero (by simp)
        rw [g2]
        refine tT (s - 2 ^ k) (by omega) ?_
        have e : s - 2 ^ k = s &&& (255 ^^^ 2 ^ k) := by
          have d : ∀ s, s < 256 → ∀ k, k < 8 → s.testBit k = true → s - 2 ^ k = s &&& (255 ^^^ 2 ^ k) := by decide +kernel
          exact d s hs k (bit_hi hs hk) hk
        rw [e, Nat.and_assoc, Nat.and_comm _ a, ← Nat.and_assoc, c1]) (by rw [eg, rdI_s]) (by rw [eg, rdI (by decide), rdI_s])
      rw [xlet_e, xlet_e, ← eg, e2]
      refine ⟨_, rfl, rfl, ⟨fun c z i hn => (t1 c z i hn).trans ((g1 c z i hn).trans (s1 c z i hn)), fun f i hn => (t2 f i hn).trans ((by rw [g2]; exact s2 f i hn))⟩, fun t ht hta => ?_, fun z => ?_⟩
      · show h2.2.2.2.1 25 0 t = _
        rw [t3]
        by_cases e : t = s
        · subst e
          rw [pk_us]
          exact gmG_e.symm
        · rw [pk_un e, g2]
          exact tT t (by omega) hta
      · have : s = a := by
          by_cases e : s = a
          · exact e
          · have := Nat.and_le_right (n := s) (m := a)
            rw [c1] at this
            omega
        subst this
        exact ⟨t4, t5⟩
    · rw [if_neg (fun z => c1 ((sb_sub s hs a ha).mp z))]
      refine ⟨_, rfl, nI_1 s, ⟨s1, s2⟩, fun t ht hta => ?_, fun z => ?_⟩
      · by_cases e : t = s
        · subst e; exact absurd hta c1
        · exact tT t (by omega) hta
      · by_cases e : s = a
        · subst e; exact absurd (Nat.and_self _) c1
        · exact tA (by omega)
  · rintro ⟨q1, h'⟩ ⟨rfl, hs, -, tA⟩
    refine ⟨h', ?_, hs, tA ha⟩
    show f_Sets_findGame_s2 0 0 (nI 256) h' = _
    unfold f_Sets_findGame_s2
    rw [if_pos (show (256 : Int32) ≤ nI 256 by decide)]
