/-! PURE: the invariant holds of the first store, and every pair keeps it -/
theorem jII_0 : jII Qr xh0 := by
  have no : ∀ {P : Prop} {j : Nat}, j < 0 → P := fun {P j} hj => absurd hj (Nat.not_lt_zero j)
  have e0 : ∀ c k i, ¬ (c = 4 ∧ k = 2) → ¬ (c = 12 ∧ k = 21) → xh0.1 c k i = 0 := fun c k i p q => by
    show (if c = 4 ∧ k = 2 then (-1 : Int32) else if c = 12 ∧ k = 21 then -1 else 0) = 0
    rw [if_neg p, if_neg q]
  have e1 : xh0.1 4 2 0 = -1 := by
    show (if 4 = 4 ∧ 2 = 2 then (-1 : Int32) else if 4 = 12 ∧ 2 = 21 then -1 else 0) = -1
    rw [if_pos ⟨rfl, rfl⟩]
  have e2 : xh0.1 12 21 0 = -1 := by
    show (if 12 = 4 ∧ 21 = 2 then (-1 : Int32) else if 12 = 12 ∧ 21 = 21 then -1 else 0) = -1
    rw [if_neg (by omega), if_pos ⟨rfl, rfl⟩]
  have n0 : (0 : Int32) = nI 0 := nI_0.symm
  have sc : scR xh0 0 (mS xh0) 0 0 0 := by
    refine ⟨⟨Or.inl rfl, fun _ => ⟨rfl, rfl, rfl⟩, ⟨0, by decide, n0⟩, ⟨0, by decide, n0⟩, n0, by decide, n0, by decide, ⟨0, by decide, n0⟩, ⟨0, by decide, n0⟩, fun k hk => no hk, fun k hk => no hk, n0, by decide, fun j hj => no hj⟩, ⟨e0 8 0 0 (by omega) (by omega), e0 8 1 0 (by omega) (by omega), e0 8 2 0 (by omega) (by omega), e0 8 3 0 (by omega) (by omega), e0 8 4 0 (by omega) (by omega), fun k hk => no hk, fun k hk => no hk, fun _ _ _ => rfl⟩, ⟨e0 6 0 0 (by omega) (by omega), e0 6 1 0 (by omega) (by omega), (e0 6 2 0 (by omega) (by omega)).trans n0, (e0 6 3 0 (by omega) (by omega)).trans n0, fun k hk => no hk⟩, e0 4 4 0 (by omega) (by omega), fun j hj => no hj⟩
  refine ⟨0, by decide, (e0 11 5 0 (by omega) (by omega)).trans n0, (e0 12 2 0 (by omega) (by omega)).trans n0, ⟨⟨0, by decide, (e0 7 6 0 (by omega) (by omega)).trans n0, (e0 12 1 0 (by omega) (by omega)).trans n0, fun j hj => no hj⟩, ⟨e1.trans e2.symm, (e0 4 3 0 (by omega) (by omega)).trans (e0 12 22 0 (by omega) (by omega)).symm, Or.inl e2, ?_⟩, fun k _ => ⟨rfl, Or.inl rfl⟩, 0, 0, 0, sc, 0, 0, by decide, by decide, (e0 1 2 0 (by omega) (by omega)).trans n0, (e0 12 24 0 (by omega) (by omega)).trans n0, (e0 1 1 0 (by omega) (by omega)).trans n0, fun j hj => no hj⟩, fun r hr => no hr⟩
  rw [e0 12 22 0 (by omega) (by omega)]
  decide
theorem lInv_ok : ∃ I : xH → Prop, lInv I := ⟨jII Qr, jII_0, p_feed Qr_ok, p_end Qr_ok, p_trug Qr_ok, p_rule, p_force Qr_ok, p_sorrow, p_carrier, p_step, p_take Qr_ok, p_await Qr_ok, p_lay Qr_ok, p_lighten Qr_ok, p_undo Qr_ok, p_ahead, p_when, p_dusk, p_order Qr_ok, p_chain Qr_ok, p_rings Qr_ok, p_taken Qr_ok, p_slack, p_carry Qr_ok, p_pole, p_light, p_took, p_game Qr_ok, p_pence, p_note Qr_ok, p_ruled, p_look, p_seed Qr_ok, p_years, p_count, p_image Qr_ok, p_back Qr_ok⟩
