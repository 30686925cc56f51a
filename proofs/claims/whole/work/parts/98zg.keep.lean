/-! PURE: rule: rewinding a tape leaves the references -/
theorem whl_keep {σ ρ : Type} {step : σ → Option (σ ⊕ ρ)} (P : σ → Prop) (Z : ρ → Prop) (h1 : ∀ s s', P s → step s = some (Sum.inl s') → P s') (h2 : ∀ s x, P s → step s = some (Sum.inr x) → Z x) {s : σ} {x : ρ} (hs : P s) (e : whl step s = some x) : Z x := by
  obtain ⟨n, hn⟩ := whl_iff.mp e
  clear e
  induction n generalizing s with
  | zero => cases hn
  | succ n ih =>
    have hn : (step s).bind (fun o => Sum.elim (itn step n) some o) = some x := hn
    cases h : step s with
    | none => rw [h] at hn; cases hn
    | some o =>
      rw [h] at hn
      cases o with
      | inl s' => exact ih (h1 s s' hs h) hn
      | inr y =>
        have : y = x := Option.some.inj hn
        rw [← this]
        exact h2 s y hs h
theorem add_keep {h h' : xH} {k b v : Int32} (e : f_Tape_addPiece k b v h = some h') : h'.2.2.1 = h.2.2.1 ∧ h'.1 7 6 0 = h.1 7 6 0 ∧ h'.2.2.2.1 33 0 = h.2.2.2.1 33 0 := by
  have s0 : f_Tape_addPiece k b v h = (if h.1 7 4 0 < 0 then some h else if (400 : Int32) < h.1 7 4 0 then some h else if xib (h.1 7 4 0) 401 then xlet (xsA h 34 0 (upd (h.2.2.2.1 34 0) (h.1 7 4 0).toNatClampNeg k)) (fun h4 => if xib (h4.1 7 4 0) 401 then xlet (xsA h4 35 0 (upd (h4.2.2.2.1 35 0) (h4.1 7 4 0).toNatClampNeg b)) (fun h6 => if xib (h6.1 7 4 0) 401 then xlet (xsA h6 36 0 (upd (h6.2.2.2.1 36 0) (h6.1 7 4 0).toNatClampNeg v)) (fun h8 => some (xsI h8 7 4 0 (h8.1 7 4 0 + 1))) else none) else none) else none) := rfl
  rw [s0] at e
  split at e
  · rw [← Option.some.inj e]
    exact ⟨rfl, rfl, rfl⟩
  split at e
  · rw [← Option.some.inj e]
    exact ⟨rfl, rfl, rfl⟩
  dsimp only [xlet] at e
  split at e
  · split at e
    · split at e
      · rw [← Option.some.inj e]
        exact ⟨rfl, rdI (by decide), (rdA_n (by decide)).trans ((rdA_n (by decide)).trans (rdA_n (by decide)))⟩
      · cases e
    · cases e
  · cases e
theorem rew_keep {h h' : xH} {t : Nat} {B : Nat → Nat} (hc : ctx h t B) (e : f_Tape_rewind h = some h') : h'.2.2.1 = h.2.2.1 := by
  have t4 := hc.2.1
  obtain ⟨g, eg⟩ : ∃ g, g = xsI (xsI h 7 9 0 0) 7 4 0 0 := ⟨_, rfl⟩
  have cg : ctx g t B := ctx_of (by rw [eg, rdI (by decide), rdI (by decide)]) (by rw [eg]; rfl) hc
  have e : whl (fun s : Int32 × Int32 × xH => f_Tape_rewind_s14 s.1 s.2.1 s.2.2) (0, 0, g) = some h' := by rw [eg]; exact e
  have g2 : g.2.2.1 = h.2.2.1 := by rw [eg]; rfl
  refine whl_keep (step := fun s : Int32 × Int32 × xH => f_Tape_rewind_s14 s.1 s.2.1 s.2.2) (fun s => ∃ f, f ≤ 401 ∧ s.1 = nI f ∧ ctx s.2.2 t B ∧ s.2.2.2.2.1 = h.2.2.1) (fun x => x.2.2.1 = h.2.2.1) ?_ ?_ ⟨0, by decide, rfl, cg, g2⟩ e
  · rintro ⟨v1, v2, x⟩ s' ⟨f, f4, rfl, cx, rx⟩ st
    have cx : ctx x t B := cx
    have rx : x.2.2.1 = h.2.2.1 := rx
    have st : (if (400 : Int32) < v2 then xup (f_Tape_rewind_b41 x) else if x.1 7 6 0 < nI f then xup (f_Tape_rewind_b41 x) else (f_Tape_cutPiece (nI f) x).bind (fun q11 => some (Sum.inl (q11.1, v2 + 1, q11.2)))) = some (Sum.inl s') := st
    have no : ∀ X : Option xH, ¬ (xup X : Option ((Int32 × Int32 × xH) ⊕ xH)) = some (Sum.inl s') := fun X z => by cases X <;> cases z
    split at st
    · exact absurd st (no _)
    split at st
    · exact absurd st (no _)
    · next z1 z2 =>
      rw [cx.1] at z2
      have ft : f ≤ t := Nat.le_of_not_lt (fun y => z2 (nI_lt y (by omega)))
      obtain ⟨v, ev, -⟩ := c_cut cx ft
      rw [ev] at st
      cases ha : f_Tape_addPiece (kdB B t (rn isSB B t f)) (nI (rn isSB B t f)) v x with
      | none => rw [ha] at st; cases st
      | some y =>
        rw [ha, Option.bind_some, Option.bind_some] at st
        cases st
        have pl : rn isSB B t f ≤ t := rn_le f ft
        refine ⟨enB B t (rn isSB B t f), ?_, rfl, ?_, (add_keep ha).1.trans rx⟩
        · by_cases c : rn isSB B t f < t
          · have := enB_le (B := B) c; omega
          · have : enB B t (rn isSB B t f) = rn isSB B t f + 1 := by unfold enB; rw [if_pos (by omega)]
            omega
        · exact ctx_of (add_keep ha).2.1 (add_keep ha).2.2 cx
  · rintro ⟨v1, v2, x⟩ y ⟨f, f4, rfl, cx, rx⟩ st
    have rx : x.2.2.1 = h.2.2.1 := rx
    have b41 : ∀ y, f_Tape_rewind_b41 x = some y → y.2.2.1 = h.2.2.1 := fun y ey => by
      have s0 : f_Tape_rewind_b41 x = (f_Tape_goOn (xsI x 7 5 0 (-1))).bind (fun h7 => some h7) := rfl
      cases hg : f_Tape_goOn (xsI x 7 5 0 (-1)) with
      | none => rw [s0, hg] at ey; cases ey
      | some z =>
        rw [s0, hg, Option.bind_some] at ey
        rw [← Option.some.inj ey, c_goOn2 hg]
        exact rx
    have st : (if (400 : Int32) < v2 then xup (f_Tape_rewind_b41 x) else if x.1 7 6 0 < nI f then xup (f_Tape_rewind_b41 x) else (f_Tape_cutPiece (nI f) x).bind (fun q11 => some (Sum.inl (q11.1, v2 + 1, q11.2)))) = some (Sum.inr y) := st
    have up : (xup (f_Tape_rewind_b41 x) : Option ((Int32 × Int32 × xH) ⊕ xH)) = some (Sum.inr y) → y.2.2.1 = h.2.2.1 := fun z => by
      cases hb : f_Tape_rewind_b41 x with
      | none => rw [hb] at z; cases z
      | some w => rw [hb] at z; cases z; exact b41 _ hb
    split at st
    · exact up st
    split at st
    · exact up st
    · cases hcut : f_Tape_cutPiece (nI f) x with
      | none => rw [hcut] at st; cases st
      | some q => rw [hcut] at st; cases st
