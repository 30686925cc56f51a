theorem law_out {g : xG} {l : Launch} {b L i : Nat} {xs : Nat → Int32} {h : xH} (hL : L ≤ 3072) (hi : ¬ i + 6 ≤ L) (hi4 : i ≤ 4000) : lEv g l b L xs i 18 [] h := by
  intro p e s m below meth c H locs la C0 hK hSt hJ hA hh hP hS hl
  obtain ⟨hx, hb, hr, hml, hown, hts, hX, hbl, hlocks, hgv⟩ := id C0
  have hbA : ¬ xA g b := fun q => absurd (hA b q) (Nat.not_le.mpr hbl)
  refine lv_iload_n hx hb dL_18 rfl (lv_at hl 3 rfl) ?_
  refine lv_aload_n hx hb dL_19 rfl (lv_at hl 0 rfl) ?_
  refine va_slen hx hb hX hbl hbA hS dL_20 ?_
  refine lv_bipush (v := 6) hx hb dL_21 (by decide) ?_
  refine lv_isub hx hb dL_23 ?_
  refine lv_icmp_gt (tgt := 1079) hx hb dL_24 (by decide) (fun _ => ?_) (fun q => absurd ?_ q)
  · refine lv_iconst (v := 1) hx hb dL_1079 (by decide) ?_
    refine va_forget (fun q hq => hA _ (hS.2.2 q hq)) ?_
    refine W.widen (k := 600000) (n := 7302250) (by decide) (by decide) ?_
    exact lw_ret hx hb hr hlocks dL_1080
  · rw [Int32.lt_iff_toInt_lt, nI_toInt (by omega)]
    have e1 := pk_sub_toInt (a := L) (b := 6) (by omega) (by omega)
    rw [show Int32.ofNat L - 6 = nI L - nI 6 from rfl, e1]
    omega
set_option maxHeartbeats 8000000 in
set_option maxRecDepth 100000 in
theorem law_loop_open {g : xG} {l : Launch} {b L : Nat} {xs : Nat → Int32} {I : xH → Prop} (HI : lInv I) (hL : L ≤ 3072) : ∀ (n i : Nat), L + 6 ≤ i + n → i ≤ 4000 → ∀ (h : xH), I h → xhd h → lEv g l b L xs i 18 [] h := by
  intro n
  induction n with
  | zero =>
    intro i hin hi4 h hI hh0
    intro p e s m below meth c H locs la C0 hK hSt hJ hA hh hP hS hl
    obtain ⟨hx, hb, hr, hml, hown, hts, hX, hbl, hlocks, hgv⟩ := id C0
    have hbA : ¬ xA g b := fun q => absurd (hA b q) (Nat.not_le.mpr hbl)
    exact law_out hL (by omega) hi4 p e s m below meth c H locs la C0 hK hSt hJ hA hh hP hS hl
  | succ n ih =>
    intro i hin hi4 h hI hh0
    by_cases hi : i + 6 ≤ L
    · intro p e s m below meth c H locs la C0 hK hSt hJ hA hh hP hS hl
      obtain ⟨hx, hb, hr, hml, hown, hts, hX, hbl, hlocks, hgv⟩ := id C0
      have hbA : ¬ xA g b := fun q => absurd (hA b q) (Nat.not_le.mpr hbl)
      have lnext : ∀ h2, I h2 → xhd h2 → lEv g l b L xs i 1073 [] h2 := by
        intro h2 i2 d2 p e s m below meth c H locs la C0 hK hSt hJ hA hh hP hS hl
        refine lv_iinc (v := nI (i + 6)) (lv' := [(3, .int (nI (i + 6))), (0, .ref b), (1, .ref (g.2.1 11 0)), (2, .ref (g.2.1 12 0))]) C0.1 C0.2.1 dL_1073 hl (k := 3) rfl (by rw [show Int32.ofInt 6 = nI 6 by decide, nI_add]) (by decide) rfl (fun la hl => ?_)
        refine lv_goto (tgt := 18) C0.1 C0.2.1 dL_1076 (by decide) ?_
        exact ih (i + 6) (by omega) (by omega) h2 i2 d2 p e s m below meth c H locs la C0 hK hSt hJ hA hh hP hS (lv_sub hl [1, 2, 3, 0] rfl)
      refine lv_iload_n hx hb dL_18 rfl (lv_at hl 3 rfl) ?_
      refine lv_aload_n hx hb dL_19 rfl (lv_at hl 0 rfl) ?_
      refine va_slen hx hb hX hbl hbA hS dL_20 ?_
      refine lv_bipush (v := 6) hx hb dL_21 (by decide) ?_
      refine lv_isub hx hb dL_23 ?_
      refine lv_icmp_gt (tgt := 1079) hx hb dL_24 (by decide) (fun q => ?_) (fun _ => ?_)
      · have e1 : Int32.ofNat L - 6 = nI (L - 6) := by
          have := pk_sub (a := L) (b := 6) (by omega)
          exact this
        rw [e1] at q
        exact absurd q (nI_nlt (by omega) (by omega))
      · refine lv_aload_n hx hb dL_27 rfl (lv_at hl 0 rfl) ?_
        refine lv_iload_n hx hb dL_28 rfl (lv_at hl 3 rfl) ?_
        refine va_sld hx hb hX hbl hbA hS (vp_in_nI (by omega) (by omega)) dL_29 ?_
        rw [nI_clamp (by omega)]
        refine lv_bipush (v := 63) hx hb dL_30 (by decide) ?_
        refine lv_iand hx hb dL_32 ?_
        by_cases q0 : xs i &&& 63 = (0 : Int32)
        · refine lv_tableIn (tgt := 188) hx hb dL_33 (by rw [q0]; decide) (by rw [q0]; decide) (by rw [q0]; first | done | rfl) (by decide) ?_
          exact lc_feed HI.2.1 hi hL (fun h2 i2 d2 => lnext h2 i2 d2) hI p e s m below meth c H locs la C0 hK hSt hJ hA hh hP hS hl
        by_cases q1 : xs i &&& 63 = (1 : Int32)
        · refine lv_tableIn (tgt := 251) hx hb dL_33 (by rw [q1]; decide) (by rw [q1]; decide) (by rw [q1]; first | done | rfl) (by decide) ?_
          exact lc_end HI.2.2.1 hi hL (fun h2 i2 d2 => lnext h2 i2 d2) hI p e s m below meth c H locs la C0 hK hSt hJ hA hh hP hS hl
        by_cases q2 : xs i &&& 63 = (2 : Int32)
        · refine lv_tableIn (tgt := 274) hx hb dL_33 (by rw [q2]; decide) (by rw [q2]; decide) (by rw [q2]; first | done | rfl) (by decide) ?_
          exact lc_trug HI.2.2.2.1 hi hL (fun h2 i2 d2 => lnext h2 i2 d2) hI p e s m below meth c H locs la C0 hK hSt hJ hA hh hP hS hl
        by_cases q3 : xs i &&& 63 = (3 : Int32)
        · refine lv_tableIn (tgt := 287) hx hb dL_33 (by rw [q3]; decide) (by rw [q3]; decide) (by rw [q3]; first | done | rfl) (by decide) ?_
          exact lc_rule HI.2.2.2.2.1 hi hL (fun h2 i2 d2 => lnext h2 i2 d2) hI p e s m below meth c H locs la C0 hK hSt hJ hA hh hP hS hl
        by_cases q4 : xs i &&& 63 = (4 : Int32)
        · refine lv_tableIn (tgt := 300) hx hb dL_33 (by rw [q4]; decide) (by rw [q4]; decide) (by rw [q4]; first | done | rfl) (by decide) ?_
          exact lc_force HI.2.2.2.2.2.1 hi hL (fun h2 i2 d2 => lnext h2 i2 d2) hI p e s m below meth c H locs la C0 hK hSt hJ hA hh hP hS hl
        by_cases q5 : xs i &&& 63 = (5 : Int32)
        · refine lv_tableIn (tgt := 323) hx hb dL_33 (by rw [q5]; decide) (by rw [q5]; decide) (by rw [q5]; first | done | rfl) (by decide) ?_
          exact lc_sorrow HI.2.2.2.2.2.2.1 hi hL (fun h2 i2 d2 => lnext h2 i2 d2) hI p e s m below meth c H locs la C0 hK hSt hJ hA hh hP hS hl
        by_cases q6 : xs i &&& 63 = (6 : Int32)
        · refine lv_tableIn (tgt := 356) hx hb dL_33 (by rw [q6]; decide) (by rw [q6]; decide) (by rw [q6]; first | done | rfl) (by decide) ?_
          exact lc_carrier HI.2.2.2.2.2.2.2.1 hi hL (fun h2 i2 d2 => lnext h2 i2 d2) hI p e s m below meth c H locs la C0 hK hSt hJ hA hh hP hS hl
        by_cases q7 : xs i &&& 63 = (7 : Int32)
        · refine lv_tableIn (tgt := 379) hx hb dL_33 (by rw [q7]; decide) (by rw [q7]; decide) (by rw [q7]; first | done | rfl) (by decide) ?_
          exact lc_step HI.2.2.2.2.2.2.2.2.1 hi hL (fun h2 i2 d2 => lnext h2 i2 d2) hI p e s m below meth c H locs la C0 hK hSt hJ hA hh hP hS hl
        by_cases q8 : xs i &&& 63 = (8 : Int32)
        · refine lv_tableIn (tgt := 392) hx hb dL_33 (by rw [q8]; decide) (by rw [q8]; decide) (by rw [q8]; first | done | rfl) (by decide) ?_
          exact lc_take HI.2.2.2.2.2.2.2.2.2.1 hi hL (fun h2 i2 d2 => lnext h2 i2 d2) hI p e s m below meth c H locs la C0 hK hSt hJ hA hh hP hS hl
        by_cases q9 : xs i &&& 63 = (9 : Int32)
        · refine lv_tableIn (tgt := 415) hx hb dL_33 (by rw [q9]; decide) (by rw [q9]; decide) (by rw [q9]; first | done | rfl) (by decide) ?_
          exact lc_await HI.2.2.2.2.2.2.2.2.2.2.1 hi hL (fun h2 i2 d2 => lnext h2 i2 d2) hI p e s m below meth c H locs la C0 hK hSt hJ hA hh hP hS hl
        by_cases q10 : xs i &&& 63 = (10 : Int32)
        · refine lv_tableIn (tgt := 438) hx hb dL_33 (by rw [q10]; decide) (by rw [q10]; decide) (by rw [q10]; first | done | rfl) (by decide) ?_
          exact lc_lay HI.2.2.2.2.2.2.2.2.2.2.2.1 hi hL (fun h2 i2 d2 => lnext h2 i2 d2) hI p e s m below meth c H locs la C0 hK hSt hJ hA hh hP hS hl
        by_cases q11 : xs i &&& 63 = (11 : Int32)
        · refine lv_tableIn (tgt := 471) hx hb dL_33 (by rw [q11]; decide) (by rw [q11]; decide) (by rw [q11]; first | done | rfl) (by decide) ?_
          exact lc_lighten HI.2.2.2.2.2.2.2.2.2.2.2.2.1 hi hL (fun h2 i2 d2 => lnext h2 i2 d2) hI p e s m below meth c H locs la C0 hK hSt hJ hA hh hP hS hl
        by_cases q12 : xs i &&& 63 = (12 : Int32)
        · refine lv_tableIn (tgt := 504) hx hb dL_33 (by rw [q12]; decide) (by rw [q12]; decide) (by rw [q12]; first | done | rfl) (by decide) ?_
          exact lc_undo HI.2.2.2.2.2.2.2.2.2.2.2.2.2.1 hi hL (fun h2 i2 d2 => lnext h2 i2 d2) hI p e s m below meth c H locs la C0 hK hSt hJ hA hh hP hS hl
        by_cases q13 : xs i &&& 63 = (13 : Int32)
        · refine lv_tableIn (tgt := 517) hx hb dL_33 (by rw [q13]; decide) (by rw [q13]; decide) (by rw [q13]; first | done | rfl) (by decide) ?_
          exact lc_ahead HI.2.2.2.2.2.2.2.2.2.2.2.2.2.2.1 hi hL (fun h2 i2 d2 => lnext h2 i2 d2) hI p e s m below meth c H locs la C0 hK hSt hJ hA hh hP hS hl
        by_cases q14 : xs i &&& 63 = (14 : Int32)
        · refine lv_tableIn (tgt := 550) hx hb dL_33 (by rw [q14]; decide) (by rw [q14]; decide) (by rw [q14]; first | done | rfl) (by decide) ?_
          exact lc_when HI.2.2.2.2.2.2.2.2.2.2.2.2.2.2.2.1 hi hL (fun h2 i2 d2 => lnext h2 i2 d2) hI p e s m below meth c H locs la C0 hK hSt hJ hA hh hP hS hl
        by_cases q15 : xs i &&& 63 = (15 : Int32)
        · refine lv_tableIn (tgt := 583) hx hb dL_33 (by rw [q15]; decide) (by rw [q15]; decide) (by rw [q15]; first | done | rfl) (by decide) ?_
          exact lc_dusk HI.2.2.2.2.2.2.2.2.2.2.2.2.2.2.2.2.1 hi hL (fun h2 i2 d2 => lnext h2 i2 d2) hI p e s m below meth c H locs la C0 hK hSt hJ hA hh hP hS hl
        by_cases q16 : xs i &&& 63 = (16 : Int32)
        · refine lv_tableIn (tgt := 606) hx hb dL_33 (by rw [q16]; decide) (by rw [q16]; decide) (by rw [q16]; first | done | rfl) (by decide) ?_
          exact lc_order HI.2.2.2.2.2.2.2.2.2.2.2.2.2.2.2.2.2.1 hi hL (fun h2 i2 d2 => lnext h2 i2 d2) hI p e s m below meth c H locs la C0 hK hSt hJ hA hh hP hS hl
        by_cases q17 : xs i &&& 63 = (17 : Int32)
        · refine lv_tableIn (tgt := 629) hx hb dL_33 (by rw [q17]; decide) (by rw [q17]; decide) (by rw [q17]; first | done | rfl) (by decide) ?_
          exact lc_chain HI.2.2.2.2.2.2.2.2.2.2.2.2.2.2.2.2.2.2.1 hi hL (fun h2 i2 d2 => lnext h2 i2 d2) hI p e s m below meth c H locs la C0 hK hSt hJ hA hh hP hS hl
        by_cases q18 : xs i &&& 63 = (18 : Int32)
        · refine lv_tableIn (tgt := 652) hx hb dL_33 (by rw [q18]; decide) (by rw [q18]; decide) (by rw [q18]; first | done | rfl) (by decide) ?_
          exact lc_rings HI.2.2.2.2.2.2.2.2.2.2.2.2.2.2.2.2.2.2.2.1 hi hL (fun h2 i2 d2 => lnext h2 i2 d2) hI p e s m below meth c H locs la C0 hK hSt hJ hA hh hP hS hl
        by_cases q19 : xs i &&& 63 = (19 : Int32)
        · refine lv_tableIn (tgt := 665) hx hb dL_33 (by rw [q19]; decide) (by rw [q19]; decide) (by rw [q19]; first | done | rfl) (by decide) ?_
          exact lc_taken HI.2.2.2.2.2.2.2.2.2.2.2.2.2.2.2.2.2.2.2.2.1 hi hL (fun h2 i2 d2 => lnext h2 i2 d2) hI p e s m below meth c H locs la C0 hK hSt hJ hA hh hP hS hl
        by_cases q20 : xs i &&& 63 = (20 : Int32)
        · refine lv_tableIn (tgt := 688) hx hb dL_33 (by rw [q20]; decide) (by rw [q20]; decide) (by rw [q20]; first | done | rfl) (by decide) ?_
          exact lc_slack HI.2.2.2.2.2.2.2.2.2.2.2.2.2.2.2.2.2.2.2.2.2.1 hi hL (fun h2 i2 d2 => lnext h2 i2 d2) hI p e s m below meth c H locs la C0 hK hSt hJ hA hh hP hS hl
        by_cases q21 : xs i &&& 63 = (21 : Int32)
        · refine lv_tableIn (tgt := 711) hx hb dL_33 (by rw [q21]; decide) (by rw [q21]; decide) (by rw [q21]; first | done | rfl) (by decide) ?_
          exact lc_carry HI.2.2.2.2.2.2.2.2.2.2.2.2.2.2.2.2.2.2.2.2.2.2.1 hi hL (fun h2 i2 d2 => lnext h2 i2 d2) hI p e s m below meth c H locs la C0 hK hSt hJ hA hh hP hS hl
        by_cases q22 : xs i &&& 63 = (22 : Int32)
        · refine lv_tableIn (tgt := 734) hx hb dL_33 (by rw [q22]; decide) (by rw [q22]; decide) (by rw [q22]; first | done | rfl) (by decide) ?_
          exact lc_pole HI.2.2.2.2.2.2.2.2.2.2.2.2.2.2.2.2.2.2.2.2.2.2.2.1 hi hL (fun h2 i2 d2 => lnext h2 i2 d2) hI p e s m below meth c H locs la C0 hK hSt hJ hA hh hP hS hl
        by_cases q23 : xs i &&& 63 = (23 : Int32)
        · refine lv_tableIn (tgt := 757) hx hb dL_33 (by rw [q23]; decide) (by rw [q23]; decide) (by rw [q23]; first | done | rfl) (by decide) ?_
          exact lc_light HI.2.2.2.2.2.2.2.2.2.2.2.2.2.2.2.2.2.2.2.2.2.2.2.2.1 hi hL (fun h2 i2 d2 => lnext h2 i2 d2) hI p e s m below meth c H locs la C0 hK hSt hJ hA hh hP hS hl
        by_cases q24 : xs i &&& 63 = (24 : Int32)
        · refine lv_tableIn (tgt := 780) hx hb dL_33 (by rw [q24]; decide) (by rw [q24]; decide) (by rw [q24]; first | done | rfl) (by decide) ?_
          exact lc_took HI.2.2.2.2.2.2.2.2.2.2.2.2.2.2.2.2.2.2.2.2.2.2.2.2.2.1 hi hL (fun h2 i2 d2 => lnext h2 i2 d2) hI p e s m below meth c H locs la C0 hK hSt hJ hA hh hP hS hl
        by_cases q25 : xs i &&& 63 = (25 : Int32)
        · refine lv_tableIn (tgt := 813) hx hb dL_33 (by rw [q25]; decide) (by rw [q25]; decide) (by rw [q25]; first | done | rfl) (by decide) ?_
          exact lc_game HI.2.2.2.2.2.2.2.2.2.2.2.2.2.2.2.2.2.2.2.2.2.2.2.2.2.2.1 hi hL (fun h2 i2 d2 => lnext h2 i2 d2) hI p e s m below meth c H locs la C0 hK hSt hJ hA hh hP hS hl
        by_cases q26 : xs i &&& 63 = (26 : Int32)
        · refine lv_tableIn (tgt := 836) hx hb dL_33 (by rw [q26]; decide) (by rw [q26]; decide) (by rw [q26]; first | done | rfl) (by decide) ?_
          exact lc_pence HI.2.2.2.2.2.2.2.2.2.2.2.2.2.2.2.2.2.2.2.2.2.2.2.2.2.2.2.1 hi hL (fun h2 i2 d2 => lnext h2 i2 d2) hI p e s m below meth c H locs la C0 hK hSt hJ hA hh hP hS hl
        by_cases q27 : xs i &&& 63 = (27 : Int32)
        · refine lv_tableIn (tgt := 869) hx hb dL_33 (by rw [q27]; decide) (by rw [q27]; decide) (by rw [q27]; first | done | rfl) (by decide) ?_
          exact lc_note HI.2.2.2.2.2.2.2.2.2.2.2.2.2.2.2.2.2.2.2.2.2.2.2.2.2.2.2.2.1 hi hL (fun h2 i2 d2 => lnext h2 i2 d2) hI p e s m below meth c H locs la C0 hK hSt hJ hA hh hP hS hl
        by_cases q28 : xs i &&& 63 = (28 : Int32)
        · refine lv_tableIn (tgt := 902) hx hb dL_33 (by rw [q28]; decide) (by rw [q28]; decide) (by rw [q28]; first | done | rfl) (by decide) ?_
          exact lc_ruled HI.2.2.2.2.2.2.2.2.2.2.2.2.2.2.2.2.2.2.2.2.2.2.2.2.2.2.2.2.2.1 hi hL (fun h2 i2 d2 => lnext h2 i2 d2) hI p e s m below meth c H locs la C0 hK hSt hJ hA hh hP hS hl
        by_cases q29 : xs i &&& 63 = (29 : Int32)
        · refine lv_tableIn (tgt := 925) hx hb dL_33 (by rw [q29]; decide) (by rw [q29]; decide) (by rw [q29]; first | done | rfl) (by decide) ?_
          exact lc_look HI.2.2.2.2.2.2.2.2.2.2.2.2.2.2.2.2.2.2.2.2.2.2.2.2.2.2.2.2.2.2.1 hi hL (fun h2 i2 d2 => lnext h2 i2 d2) hI p e s m below meth c H locs la C0 hK hSt hJ hA hh hP hS hl
        by_cases q30 : xs i &&& 63 = (30 : Int32)
        · refine lv_tableIn (tgt := 948) hx hb dL_33 (by rw [q30]; decide) (by rw [q30]; decide) (by rw [q30]; first | done | rfl) (by decide) ?_
          exact lc_seed HI.2.2.2.2.2.2.2.2.2.2.2.2.2.2.2.2.2.2.2.2.2.2.2.2.2.2.2.2.2.2.2.1 hi hL (fun h2 i2 d2 => lnext h2 i2 d2) hI p e s m below meth c H locs la C0 hK hSt hJ hA hh hP hS hl
        by_cases q31 : xs i &&& 63 = (31 : Int32)
        · refine lv_tableIn (tgt := 971) hx hb dL_33 (by rw [q31]; decide) (by rw [q31]; decide) (by rw [q31]; first | done | rfl) (by decide) ?_
          exact lc_years HI.2.2.2.2.2.2.2.2.2.2.2.2.2.2.2.2.2.2.2.2.2.2.2.2.2.2.2.2.2.2.2.2.1 hi hL (fun h2 i2 d2 => lnext h2 i2 d2) hI p e s m below meth c H locs la C0 hK hSt hJ hA hh hP hS hl
        by_cases q32 : xs i &&& 63 = (32 : Int32)
        · refine lv_tableIn (tgt := 1004) hx hb dL_33 (by rw [q32]; decide) (by rw [q32]; decide) (by rw [q32]; first | done | rfl) (by decide) ?_
          exact lc_count HI.2.2.2.2.2.2.2.2.2.2.2.2.2.2.2.2.2.2.2.2.2.2.2.2.2.2.2.2.2.2.2.2.2.1 hi hL (fun h2 i2 d2 => lnext h2 i2 d2) hI p e s m below meth c H locs la C0 hK hSt hJ hA hh hP hS hl
        by_cases q33 : xs i &&& 63 = (33 : Int32)
        · refine lv_tableIn (tgt := 1027) hx hb dL_33 (by rw [q33]; decide) (by rw [q33]; decide) (by rw [q33]; first | done | rfl) (by decide) ?_
          exact lc_image HI.2.2.2.2.2.2.2.2.2.2.2.2.2.2.2.2.2.2.2.2.2.2.2.2.2.2.2.2.2.2.2.2.2.2.1 hi hL (fun h2 i2 d2 => lnext h2 i2 d2) hI p e s m below meth c H locs la C0 hK hSt hJ hA hh hP hS hl
        by_cases q34 : xs i &&& 63 = (34 : Int32)
        · refine lv_tableIn (tgt := 1050) hx hb dL_33 (by rw [q34]; decide) (by rw [q34]; decide) (by rw [q34]; first | done | rfl) (by decide) ?_
          exact lc_back HI.2.2.2.2.2.2.2.2.2.2.2.2.2.2.2.2.2.2.2.2.2.2.2.2.2.2.2.2.2.2.2.2.2.2.2 hi hL (fun h2 i2 d2 => lnext h2 i2 d2) hI p e s m below meth c H locs la C0 hK hSt hJ hA hh hP hS hl
        refine lv_tableOut (tgt := 1073) hx hb dL_33 (xsw_out (fun k z1 z2 => ?_)) (by decide) ?_
        · rcases (show k = 0 ∨ k = 1 ∨ k = 2 ∨ k = 3 ∨ k = 4 ∨ k = 5 ∨ k = 6 ∨ k = 7 ∨ k = 8 ∨ k = 9 ∨ k = 10 ∨ k = 11 ∨ k = 12 ∨ k = 13 ∨ k = 14 ∨ k = 15 ∨ k = 16 ∨ k = 17 ∨ k = 18 ∨ k = 19 ∨ k = 20 ∨ k = 21 ∨ k = 22 ∨ k = 23 ∨ k = 24 ∨ k = 25 ∨ k = 26 ∨ k = 27 ∨ k = 28 ∨ k = 29 ∨ k = 30 ∨ k = 31 ∨ k = 32 ∨ k = 33 ∨ k = 34 by omega) with rfl | rfl | rfl | rfl | rfl | rfl | rfl | rfl | rfl | rfl | rfl | rfl | rfl | rfl | rfl | rfl | rfl | rfl | rfl | rfl | rfl | rfl | rfl | rfl | rfl | rfl | rfl | rfl | rfl | rfl | rfl | rfl | rfl | rfl | rfl
          · exact fun e => q0 (e.trans (by decide))
          · exact fun e => q1 (e.trans (by decide))
          · exact fun e => q2 (e.trans (by decide))
          · exact fun e => q3 (e.trans (by decide))
          · exact fun e => q4 (e.trans (by decide))
          · exact fun e => q5 (e.trans (by decide))
          · exact fun e => q6 (e.trans (by decide))
          · exact fun e => q7 (e.trans (by decide))
          · exact fun e => q8 (e.trans (by decide))
          · exact fun e => q9 (e.trans (by decide))
          · exact fun e => q10 (e.trans (by decide))
          · exact fun e => q11 (e.trans (by decide))
          · exact fun e => q12 (e.trans (by decide))
          · exact fun e => q13 (e.trans (by decide))
          · exact fun e => q14 (e.trans (by decide))
          · exact fun e => q15 (e.trans (by decide))
          · exact fun e => q16 (e.trans (by decide))
          · exact fun e => q17 (e.trans (by decide))
          · exact fun e => q18 (e.trans (by decide))
          · exact fun e => q19 (e.trans (by decide))
          · exact fun e => q20 (e.trans (by decide))
          · exact fun e => q21 (e.trans (by decide))
          · exact fun e => q22 (e.trans (by decide))
          · exact fun e => q23 (e.trans (by decide))
          · exact fun e => q24 (e.trans (by decide))
          · exact fun e => q25 (e.trans (by decide))
          · exact fun e => q26 (e.trans (by decide))
          · exact fun e => q27 (e.trans (by decide))
          · exact fun e => q28 (e.trans (by decide))
          · exact fun e => q29 (e.trans (by decide))
          · exact fun e => q30 (e.trans (by decide))
          · exact fun e => q31 (e.trans (by decide))
          · exact fun e => q32 (e.trans (by decide))
          · exact fun e => q33 (e.trans (by decide))
          · exact fun e => q34 (e.trans (by decide))
        · exact lnext h hI hh p e s m below meth c H locs la C0 hK hSt hJ hA hh hP hS hl
    · exact law_out hL hi hi4
