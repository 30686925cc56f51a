/-! PURE: a step, of vectors and of the reference -/
def chF (lo : Nat → Bool) (wo : Nat → Int64) (k : Nat) (b : Int64 × Option Nat) : Int64 × Option Nat := if lo k = true then (if b.1 < wo k then (wo k, some k) else b) else b
/-- what a loose sorrow is worth by a rule, or by none -/
def woV (V : Nat → Int32) (n : Nat) (rl : Option Nat) (cs : List Cl) (k : Nat) : Int64 := match rl with | none => 1 | some _ => wrt (wV V n k) cs
def chV (V : Nat → Int32) (n : Nat) (rl : Option Nat) (cs : List Cl) : Option Nat := (fold (chF (vLoose V n) (woV V n rl cs)) (0, none) n).2
theorem ch_lt {lo : Nat → Bool} {wo : Nat → Int64} : ∀ k g, (fold (chF lo wo) (0, none) k).2 = some g → g < k ∧ lo g = true
  | 0, g, hg => by cases hg
  | k + 1, g, hg => by
    have ih := ch_lt (lo := lo) (wo := wo) k g
    have hg' : (chF lo wo k (fold (chF lo wo) (0, none) k)).2 = some g := hg
    unfold chF at hg'
    split at hg'
    · next hl =>
      split at hg'
      · cases hg'; exact ⟨by omega, hl⟩
      · exact ⟨by have := ih hg'; omega, (ih hg').2⟩
    · exact ⟨by have := ih hg'; omega, (ih hg').2⟩
theorem m_choice {h : xH} {n : Nat} {rl : Option Nat} {cs : List Cl} (hv : wOk (mS h) n) (hf : h.1 12 21 0 = oI rl) (hr : ∀ r, rl = some r → r < 6 ∧ mcR h r 0 0 cs) : ∃ h2, f_M_choice h = some (oI (chV (mS h) n rl cs), h2) ∧ moF h h2 := by
  have h8 := hv.2.1
  obtain ⟨b, eb⟩ : ∃ b : Nat → Int64 × Option Nat, b = fold (chF (vLoose (mS h) n) (woV (mS h) n rl cs)) (0, none) := ⟨_, rfl⟩
  have eb0 : b 0 = (0, none) := by rw [eb]; rfl
  have ebs : ∀ k, b (k + 1) = chF (vLoose (mS h) n) (woV (mS h) n rl cs) k (b k) := fun k => by rw [eb]; rfl
  have key := whl_cntE (step := fun s : Int32 × Int64 × Int32 × xH => f_M_choice_s7 s.1 s.2.1 s.2.2.1 s.2.2.2) n (fun k s => s.1 = oI (b k).2 ∧ s.2.1 = (b k).1 ∧ s.2.2.1 = nI k ∧ moF h s.2.2.2) (fun x => ∃ h2, x = (oI (b n).2, h2) ∧ moF h h2) ?_ ?_ (-1, 0, 0, h) ⟨by rw [eb0]; rfl, by rw [eb0], nI_0.symm, moF_refl h⟩
  · obtain ⟨x, e, h2, rfl, f⟩ := key
    refine ⟨h2, ?_, f⟩
    have e' : f_M_choice h = some (oI (b n).2, h2) := e
    rw [e', eb]
    rfl
  · rintro k hk ⟨v1, v2, v4, h'⟩ ⟨e1, e2, e4, f⟩
    have e1 : v1 = oI (b k).2 := e1
    have e2 : v2 = (b k).1 := e2
    have e4 : v4 = nI k := e4
    have f : moF h h' := f
    subst e1; subst e2; subst e4
    left
    have eS : mS h' = mS h := by
      show h'.2.2.2.1 56 0 = h.2.2.2.1 56 0
      rw [f.2]
    have hn' : mN h' n := ⟨by rw [eS]; exact hv.1, h8⟩
    have e3 : h'.2.2.2.1 56 0 ((3 : Int32)).toNatClampNeg = nI n := hn'.1
    show ∃ s', f_M_choice_s7 (oI (b k).2) (b k).1 (nI k) h' = some (Sum.inl s') ∧ s'.1 = oI (b (k + 1)).2 ∧ s'.2.1 = (b (k + 1)).1 ∧ s'.2.2.1 = nI (k + 1) ∧ moF h s'.2.2.2
    rw [ebs k]
    have b47 : ∀ h2, moF h h2 → ∃ s', f_M_choice_b47 (oI (b k).2) (b k).1 (nI k) (woV (mS h) n rl cs k) h2 = some (Sum.inl s') ∧ s'.1 = oI (if (b k).1 < woV (mS h) n rl cs k then (woV (mS h) n rl cs k, some k) else b k).2 ∧ s'.2.1 = (if (b k).1 < woV (mS h) n rl cs k then (woV (mS h) n rl cs k, some k) else b k).1 ∧ s'.2.2.1 = nI (k + 1) ∧ moF h s'.2.2.2 := by
      intro h2 f2
      unfold f_M_choice_b47
      by_cases c : (b k).1 < woV (mS h) n rl cs k
      · rw [if_pos ((lg_cmp_gt _ _).mpr c), if_pos c]
        exact ⟨_, rfl, rfl, rfl, nI_1 k, f2⟩
      · rw [if_neg (fun z => c ((lg_cmp_gt _ _).mp z)), if_neg c]
        exact ⟨_, rfl, rfl, rfl, nI_1 k, f2⟩
    unfold f_M_choice_s7 chF
    rw [e3, if_neg (nI_ge hk (by omega)), m_isLoose_in hn' hk, Option.bind_some, mLoose_v, eS]
    cases hl : vLoose (mS h) n k with
    | false => exact ⟨_, rfl, rfl, rfl, nI_1 k, f⟩
    | true =>
      rw [if_pos rfl, if_neg (by decide), if_pos rfl, f.1 12 21 0 (by decide), hf]
      cases rl with
      | none =>
        rw [if_neg (show ¬ (0 : Int32) ≤ oI none by decide)]
        exact b47 h' f
      | some r =>
        obtain ⟨r6, hm⟩ := hr r rfl
        obtain ⟨h2, e2, f2⟩ := m_worthOf (h := h') (n := n) (k := k) (r := r) (cs := cs) (by rw [eS]; exact hv) hk (by rw [f.1 12 21 0 (by decide)]; exact hf) r6 (mcR_of f.2 hm)
        rw [eS] at e2
        rw [if_pos (show (0 : Int32) ≤ oI (some r) from Int32.not_lt.mp (nI_pos (by omega))), e2, Option.bind_some]
        exact b47 h2 (moF_trans f f2)
  · rintro ⟨v1, v2, v4, h'⟩ ⟨e1, e2, e4, f⟩
    have e1 : v1 = oI (b n).2 := e1
    have e4 : v4 = nI n := e4
    have f : moF h h' := f
    subst e1; subst e4
    have e3 : h'.2.2.2.1 56 0 ((3 : Int32)).toNatClampNeg = nI n := by
      rw [f.2]; exact hv.1
    refine ⟨_, ?_, h', rfl, f⟩
    show f_M_choice_s7 (oI (b n).2) v2 (nI n) h' = _
    unfold f_M_choice_s7
    rw [e3, if_pos (Int32.le_refl _)]
/-- minutes gone by -/
def gbT (V : Nat → Int32) (z : Int32) : Int32 := if V 10 + z ≤ 9999 then V 10 + z else 9999
theorem m_goesBy {h : xH} {z : Int32} : f_M_goesBy z h = some (xsA h 56 0 (upd (mS h) 10 (gbT (mS h) z))) := by
  have e : f_M_goesBy z h = (if mS h 10 + z ≤ 9999 then some (xsA h 56 0 (upd (mS h) 10 (mS h 10 + z))) else some (xsA h 56 0 (upd (mS h) 10 9999))) := rfl
  rw [e]
  unfold gbT
  split <;> rfl
/-- what is said behind a step -/
def stV (V : Nat → Int32) : Option Nat → Nat → Int32
  | none => upd (upd V 10 (gbT V 1)) 11 (V 11 + 1)
  | some k => upd (liV V k) 11 (V 11 + 1)
/-- what the reference's steps leave -/
def paF (h h' : xH) : Prop := (∀ c k i, ¬ (c = 12 ∧ k = 18) → h'.1 c k i = h.1 c k i) ∧ ∀ f i, ¬ (f = 56 ∧ i = 0) → h'.2.2.2.1 f i = h.2.2.2.1 f i
theorem paF_refl (h : xH) : paF h h := ⟨fun _ _ _ _ => rfl, fun _ _ _ => rfl⟩
theorem paF_trans {h h1 h2 : xH} (a : paF h h1) (b : paF h1 h2) : paF h h2 := ⟨fun c k i q => (b.1 c k i q).trans (a.1 c k i q), fun f i q => (b.2 f i q).trans (a.2 f i q)⟩
theorem m_passes {h : xH} {n : Nat} {rl : Option Nat} {cs : List Cl} (hv : wOk (mS h) n) (hf : h.1 12 21 0 = oI rl) (hr : ∀ r, rl = some r → r < 6 ∧ mcR h r 0 0 cs) : ∃ h2, f_M_passes h = some (oI (chV (mS h) n rl cs), h2) ∧ mS h2 = stV (mS h) (chV (mS h) n rl cs) ∧ paF h h2 := by
  have h8 := hv.2.1
  obtain ⟨g, eg, f⟩ := m_choice hv hf hr
  have eS : mS g = mS h := by
    show g.2.2.2.1 56 0 = h.2.2.2.1 56 0
    rw [f.2]
  have cl : f_M_passes h = (f_M_choice h).bind (fun q3 => if (0 : Int32) ≤ q3.1 then (f_M_lifts q3.1 q3.2).bind (fun h7 => some (q3.1, xsA h7 56 0 (upd (h7.2.2.2.1 56 0) 11 (h7.2.2.2.1 56 0 11 + 1)))) else (f_M_goesBy 1 q3.2).bind (fun h11 => some (q3.1, xsA h11 56 0 (upd (h11.2.2.2.1 56 0) 11 (h11.2.2.2.1 56 0 11 + 1))))) := rfl
  rw [cl, eg, Option.bind_some]
  have fin : ∀ W, paF h (xsA (xsA g 56 0 W) 56 0 (upd W 11 (W 11 + 1))) := fun W => ⟨fun c k i q => f.1 c k i q, fun a i q => by rw [rdA_n q, rdA_n q, f.2]⟩
  have ch8 : ∀ k, chV (mS h) n rl cs = some k → k < n := fun k hk => (ch_lt n k hk).1
  cases hc : chV (mS h) n rl cs with
  | none =>
    show ∃ h2, (if (0 : Int32) ≤ oI none then _ else (f_M_goesBy 1 g).bind _) = _ ∧ _
    rw [if_neg (show ¬ (0 : Int32) ≤ oI none by decide), m_goesBy, Option.bind_some, eS, rdA_s]
    refine ⟨_, rfl, ?_, fin _⟩
    show (xsA _ 56 0 _).2.2.2.1 56 0 = _
    rw [rdA_s, pk_un (show (11 : Nat) ≠ 10 by decide)]
    rfl
  | some k =>
    have hk := ch8 k hc
    show ∃ h2, (if (0 : Int32) ≤ oI (some k) then (f_M_lifts (nI k) g).bind _ else _) = _ ∧ _
    rw [if_pos (show (0 : Int32) ≤ oI (some k) from Int32.not_lt.mp (nI_pos (by omega))), m_lifts (by omega), Option.bind_some, eS, rdA_s]
    refine ⟨_, rfl, ?_, fin _⟩
    show (xsA _ 56 0 _).2.2.2.1 56 0 = _
    rw [rdA_s, liV_o (show 11 ≠ 10 by decide) (by omega) (by omega)]
    rfl
theorem wOk_up {V : Nat → Int32} {n : Nat} {t10 t11 : Int32} (hv : wOk V n) (ht : ∃ z, z ≤ 9999 ∧ t10 = nI z) : wOk (upd (upd V 10 t10) 11 t11) n := by
  have o : ∀ t, t ≠ 10 → t ≠ 11 → upd (upd V 10 t10) 11 t11 t = V t := fun t h1 h2 => by rw [pk_un h2, pk_un h1]
  obtain ⟨a, b, c, d⟩ := hv
  refine ⟨by rw [o 3 (by decide) (by decide)]; exact a, b, ?_, fun k hk => ?_⟩
  · rw [pk_un (show (10 : Nat) ≠ 11 by decide), pk_us]; exact ht
  · rw [o (12 + k) (by omega) (by omega), o (36 + k) (by omega) (by omega), o (44 + k) (by omega) (by omega)]
    exact d k hk
theorem gbT_ok {V : Nat → Int32} {n y : Nat} (hv : wOk V n) (hy : y ≤ 9999) : ∃ z, z ≤ 9999 ∧ gbT V (nI y) = nI z := by
  obtain ⟨z, hz, e⟩ := hv.2.2.1
  unfold gbT
  rw [e, nI_add]
  by_cases c : z + y ≤ 9999
  · rw [if_pos (show nI (z + y) ≤ (9999 : Int32) from nI_le (b := 9999) c (by decide))]
    exact ⟨_, c, rfl⟩
  · rw [if_neg (show ¬ nI (z + y) ≤ (9999 : Int32) from nI_ge (a := 9999) (by omega) (by omega))]
    exact ⟨9999, Nat.le_refl _, rfl⟩
theorem wOk_li {V : Nat → Int32} {n k : Nat} {t11 : Int32} (hv : wOk V n) (hk : k < n) : wOk (upd (liV V k) 11 t11) n := by
  obtain ⟨a, n8, ⟨z, hz, e10⟩, d⟩ := hv
  obtain ⟨-, -, y, hy, ey⟩ := d k hk
  have eT := liT_n e10 hz ey hy
  have o : ∀ t, t ≠ 10 → t ≠ 11 → t ≠ 12 + k → t ≠ 20 + k → upd (liV V k) 11 t11 t = V t := fun t h1 h2 h3 h4 => by rw [pk_un h2, liV_o h1 h3 h4]
  refine ⟨by rw [o 3 (by decide) (by decide) (by omega) (by omega)]; exact a, n8, ?_, fun j hj => ?_⟩
  · rw [pk_un (show (10 : Nat) ≠ 11 by decide), liV_10, eT]
    exact ⟨_, Nat.min_le_left _ _, rfl⟩
  · rw [o (36 + j) (by omega) (by omega) (by omega) (by omega), o (44 + j) (by omega) (by omega) (by omega) (by omega)]
    refine ⟨?_, (d j hj).2⟩
    by_cases e : j = k
    · subst e
      rw [pk_un (by omega), liV_12 (by omega)]
      split
      · exact Or.inr (Or.inr rfl)
      · exact Or.inr (Or.inl rfl)
    · rw [o (12 + j) (by omega) (by omega) (by omega) (by omega)]
      exact (d j hj).1
theorem wOk_st {V : Nat → Int32} {n : Nat} {c : Option Nat} (hv : wOk V n) (hc : ∀ k, c = some k → k < n) : wOk (stV V c) n := by
  cases c with
  | none => exact wOk_up hv (gbT_ok (y := 1) hv (by decide))
  | some k => exact wOk_li hv (hc k rfl)
