theorem d96_0 : decode (xcode 96) 0 = .ok (.aload_n 0, 1) := by decide +kernel
theorem d96_1 : decode (xcode 96) 1 = .ok (.getfield 28, 3) := by decide +kernel
theorem d96_4 : decode (xcode 96) 4 = .ok (.invokevirtual 110, 3) := by decide +kernel
theorem d96_7 : decode (xcode 96) 7 = .ok (.istore_n 1, 1) := by decide +kernel
theorem d96_8 : decode (xcode 96) 8 = .ok (.aload_n 0, 1) := by decide +kernel
theorem d96_9 : decode (xcode 96) 9 = .ok (.getfield 10, 3) := by decide +kernel
theorem d96_12 : decode (xcode 96) 12 = .ok (.iconst 0, 1) := by decide +kernel
theorem d96_13 : decode (xcode 96) 13 = .ok (.putfield 107, 3) := by decide +kernel
theorem d96_16 : decode (xcode 96) 16 = .ok (.iload_n 1, 1) := by decide +kernel
theorem d96_17 : decode (xcode 96) 17 = .ok (.ifCond .eq 8, 3) := by decide +kernel
theorem d96_20 : decode (xcode 96) 20 = .ok (.bipush (-2), 2) := by decide +kernel
theorem d96_22 : decode (xcode 96) 22 = .ok (.iload_n 1, 1) := by decide +kernel
theorem d96_23 : decode (xcode 96) 23 = .ok (.isub, 1) := by decide +kernel
theorem d96_24 : decode (xcode 96) 24 = .ok (.ireturn, 1) := by decide +kernel
theorem d96_25 : decode (xcode 96) 25 = .ok (.aload_n 0, 1) := by decide +kernel
theorem d96_26 : decode (xcode 96) 26 = .ok (.getfield 55, 3) := by decide +kernel
theorem d96_29 : decode (xcode 96) 29 = .ok (.getfield 114, 3) := by decide +kernel
theorem d96_32 : decode (xcode 96) 32 = .ok (.aload_n 0, 1) := by decide +kernel
theorem d96_33 : decode (xcode 96) 33 = .ok (.getfield 19, 3) := by decide +kernel
theorem d96_36 : decode (xcode 96) 36 = .ok (.invokevirtual 117, 3) := by decide +kernel
theorem d96_39 : decode (xcode 96) 39 = .ok (.aload_n 0, 1) := by decide +kernel
theorem d96_40 : decode (xcode 96) 40 = .ok (.getfield 55, 3) := by decide +kernel
theorem d96_43 : decode (xcode 96) 43 = .ok (.getfield 121, 3) := by decide +kernel
theorem d96_46 : decode (xcode 96) 46 = .ok (.aload_n 0, 1) := by decide +kernel
theorem d96_47 : decode (xcode 96) 47 = .ok (.getfield 55, 3) := by decide +kernel
theorem d96_50 : decode (xcode 96) 50 = .ok (.getfield 114, 3) := by decide +kernel
theorem d96_53 : decode (xcode 96) 53 = .ok (.invokevirtual 125, 3) := by decide +kernel
theorem d96_56 : decode (xcode 96) 56 = .ok (.aload_n 0, 1) := by decide +kernel
theorem d96_57 : decode (xcode 96) 57 = .ok (.getfield 55, 3) := by decide +kernel
theorem d96_60 : decode (xcode 96) 60 = .ok (.iconst 0, 1) := by decide +kernel
theorem d96_61 : decode (xcode 96) 61 = .ok (.putfield 130, 3) := by decide +kernel
theorem d96_64 : decode (xcode 96) 64 = .ok (.aload_n 0, 1) := by decide +kernel
theorem d96_65 : decode (xcode 96) 65 = .ok (.getfield 70, 3) := by decide +kernel
theorem d96_68 : decode (xcode 96) 68 = .ok (.invokevirtual 133, 3) := by decide +kernel
theorem d96_71 : decode (xcode 96) 71 = .ok (.aload_n 0, 1) := by decide +kernel
theorem d96_72 : decode (xcode 96) 72 = .ok (.getfield 55, 3) := by decide +kernel
theorem d96_75 : decode (xcode 96) 75 = .ok (.getfield 114, 3) := by decide +kernel
theorem d96_78 : decode (xcode 96) 78 = .ok (.getfield 136, 3) := by decide +kernel
theorem d96_81 : decode (xcode 96) 81 = .ok (.ireturn, 1) := by decide +kernel
noncomputable def f_B_trug_e (h : xH) : Option (Int32 × xH) :=
  (f_TrugReader_readAll h).bind fun q3 =>
  xlet (xsI q3.2 7 6 0 (0 : Int32)) fun h4 =>
  if q3.1 = (0 : Int32) then (
  (f_Told_copyFrom 0 5 h4).bind fun h8 =>
  (f_State_begin 0 0 h8).bind fun h11 =>
  xlet (xsI h11 4 4 0 (0 : Int32)) fun h12 =>
  (f_Past_forget h12).bind fun h15 =>
  some ((h15.1 8 3 0, h15))) else (
  some (((-2 : Int32) - q3.1, h4)))
set_option maxHeartbeats 4000000 in
set_option maxRecDepth 100000 in
theorem f_B_trug_e_ok {g : xG} {l : Launch} {d : Nat} {h : xH} {o : (Int32 × xH)} {R : Option xV} {H' : xH} (hD : 9 ≤ d) (hf : f_B_trug_e h = some o) (K0 : ∀ (a : Int32) (h1 : xH), o = (a, h1) → R = some (xi a) ∧ H' = h1) : xEv g l d 96 0 [(0, xr 11 (some 0))] [] h R H' := by
  unfold f_B_trug_e at hf
  refine xs_aload_n d96_0 rfl ?_
  refine xe_getc (j := 0) d96_1 ky96 fl148 fk11_1 rfl ?_
  obtain ⟨q3, hc2, hf⟩ := lk_b hf
  refine xe_callv1 (as := []) (st := []) (h2 := q3.2) (d2 := d - 1) d96_4 ky96 ml5 st78 (by decide) cn78 rfl na78 (Nat.le_of_ble_eq_true rfl) (by omega) (f_TrugReader_readAll_ok (by omega) hc2) ?_
  refine xe_istore_n (v := q3.1) (ls2 := [(0, xr 11 (some 0)), (1, xi q3.1)]) d96_7 mx96 (by decide) rfl rfl ?_
  refine xs_aload_n d96_8 rfl ?_
  refine xe_getc (j := 0) d96_9 ky96 fl147 fk11_0 rfl ?_
  refine xs_iconst (v := 0) d96_12 (by decide) ?_
  obtain ⟨h4, eh4, hf⟩ := lk_let hf
  refine xe_puti d96_13 ky96 fl7 fk7_6 ft7_6 eh4 ?_
  refine xs_iload_n d96_16 rfl ?_
  rcases lk_if hf with ⟨hc5, hf⟩ | ⟨hc5, hf⟩
  · refine xs_if_eq (tgt := 25) d96_17 (by decide) (fun _ => ?_) (fun hn => absurd hc5 hn)
    refine xs_aload_n d96_25 rfl ?_
    refine xe_getc (j := 0) d96_26 ky96 fl153 fk11_6 rfl ?_
    refine xe_getc (j := 0) d96_29 ky96 fl96 fk4_0 rfl ?_
    refine xs_aload_n d96_32 rfl ?_
    refine xe_getc (j := 5) d96_33 ky96 fl150 fk11_3 rfl ?_
    obtain ⟨h8, hc7, hf⟩ := lk_b hf
    refine xe_callv0 (as := [xr 8 (some 5)]) (st := []) (h2 := h8) (d2 := d - 1) d96_36 ky96 ml32 st75 (by decide) cn75 rfl na75 (Nat.le_of_ble_eq_true rfl) (by omega) (f_Told_copyFrom_ok (by omega) hc7) ?_
    refine xs_aload_n d96_39 rfl ?_
    refine xe_getc (j := 0) d96_40 ky96 fl153 fk11_6 rfl ?_
    refine xe_getc (j := 0) d96_43 ky96 fl98 fk4_1 rfl ?_
    refine xs_aload_n d96_46 rfl ?_
    refine xe_getc (j := 0) d96_47 ky96 fl153 fk11_6 rfl ?_
    refine xe_getc (j := 0) d96_50 ky96 fl96 fk4_0 rfl ?_
    obtain ⟨h11, hc10, hf⟩ := lk_b hf
    refine xe_callv0 (as := [xr 8 (some 0)]) (st := []) (h2 := h11) (d2 := d - 1) d96_53 ky96 ml33 st45 (by decide) cn45 rfl na45 (Nat.le_of_ble_eq_true rfl) (by omega) (f_State_begin_ok (by omega) hc10) ?_
    refine xs_aload_n d96_56 rfl ?_
    refine xe_getc (j := 0) d96_57 ky96 fl153 fk11_6 rfl ?_
    refine xs_iconst (v := 0) d96_60 (by decide) ?_
    obtain ⟨h12, eh12, hf⟩ := lk_let hf
    refine xe_puti d96_61 ky96 fl104 fk4_4 ft4_4 eh12 ?_
    refine xs_aload_n d96_64 rfl ?_
    refine xe_getc (j := 0) d96_65 ky96 fl156 fk11_9 rfl ?_
    obtain ⟨h15, hc14, hf⟩ := lk_b hf
    refine xe_callv0 (as := []) (st := []) (h2 := h15) (d2 := d - 1) d96_68 ky96 ml34 st5 (by decide) cn5 rfl na5 (Nat.le_of_ble_eq_true rfl) (by omega) (f_Past_forget_ok (by omega) hc14) ?_
    refine xs_aload_n d96_71 rfl ?_
    refine xe_getc (j := 0) d96_72 ky96 fl153 fk11_6 rfl ?_
    refine xe_getc (j := 0) d96_75 ky96 fl96 fk4_0 rfl ?_
    refine xe_geti d96_78 ky96 fl32 fk8_3 ?_
    obtain ⟨eR, eH⟩ := K0 _ _ (Option.some.inj hf).symm
    subst eR; subst eH
    exact xs_iret d96_81 rt96
  · refine xs_if_eq (tgt := 25) d96_17 (by decide) (fun hp => absurd hp hc5) (fun _ => ?_)
    refine xs_bipush (v := -2) d96_20 (by decide) ?_
    refine xs_iload_n d96_22 rfl ?_
    refine xs_isub d96_23 ?_
    obtain ⟨eR, eH⟩ := K0 _ _ (Option.some.inj hf).symm
    subst eR; subst eH
    exact xs_iret d96_24 rt96
noncomputable def f_B_trug (h : xH) : Option (Int32 × xH) := f_B_trug_e h
theorem f_B_trug_ok {g : xG} {l : Launch} {d : Nat} {h : xH} {r : Int32} {h1 : xH} (hD : 9 ≤ d) (hf : f_B_trug h = some (r, h1)) : xC g l d 96 [xr 11 (some 0)] h (some (xi r)) h1 :=
  xC_of2 (by decide) mx96 (Nat.le_of_ble_eq_true rfl) (f_B_trug_e_ok hD hf (fun _ _ e => by cases e; exact ⟨rfl, rfl⟩))
theorem d97_0 : decode (xcode 97) 0 = .ok (.aload_n 0, 1) := by decide +kernel
theorem d97_1 : decode (xcode 97) 1 = .ok (.getfield 48, 3) := by decide +kernel
theorem d97_4 : decode (xcode 97) 4 = .ok (.ifCond .lt 12, 3) := by decide +kernel
theorem d97_7 : decode (xcode 97) 7 = .ok (.aload_n 0, 1) := by decide +kernel
theorem d97_8 : decode (xcode 97) 8 = .ok (.getfield 48, 3) := by decide +kernel
theorem d97_11 : decode (xcode 97) 11 = .ok (.bipush 6, 2) := by decide +kernel
theorem d97_13 : decode (xcode 97) 13 = .ok (.if_icmp .lt 5, 3) := by decide +kernel
theorem d97_16 : decode (xcode 97) 16 = .ok (.iconst (-1), 1) := by decide +kernel
theorem d97_17 : decode (xcode 97) 17 = .ok (.ireturn, 1) := by decide +kernel
theorem d97_18 : decode (xcode 97) 18 = .ok (.aload_n 0, 1) := by decide +kernel
theorem d97_19 : decode (xcode 97) 19 = .ok (.getfield 37, 3) := by decide +kernel
theorem d97_22 : decode (xcode 97) 22 = .ok (.aload_n 0, 1) := by decide +kernel
theorem d97_23 : decode (xcode 97) 23 = .ok (.getfield 43, 3) := by decide +kernel
theorem d97_26 : decode (xcode 97) 26 = .ok (.aload_n 0, 1) := by decide +kernel
theorem d97_27 : decode (xcode 97) 27 = .ok (.getfield 48, 3) := by decide +kernel
theorem d97_30 : decode (xcode 97) 30 = .ok (.aaload, 1) := by decide +kernel
theorem d97_31 : decode (xcode 97) 31 = .ok (.invokevirtual 139, 3) := by decide +kernel
theorem d97_34 : decode (xcode 97) 34 = .ok (.istore_n 1, 1) := by decide +kernel
theorem d97_35 : decode (xcode 97) 35 = .ok (.aload_n 0, 1) := by decide +kernel
theorem d97_36 : decode (xcode 97) 36 = .ok (.getfield 10, 3) := by decide +kernel
theorem d97_39 : decode (xcode 97) 39 = .ok (.iconst 0, 1) := by decide +kernel
theorem d97_40 : decode (xcode 97) 40 = .ok (.putfield 107, 3) := by decide +kernel
theorem d97_43 : decode (xcode 97) 43 = .ok (.iload_n 1, 1) := by decide +kernel
theorem d97_44 : decode (xcode 97) 44 = .ok (.ifCond .eq 8, 3) := by decide +kernel
theorem d97_47 : decode (xcode 97) 47 = .ok (.bipush (-2), 2) := by decide +kernel
theorem d97_49 : decode (xcode 97) 49 = .ok (.iload_n 1, 1) := by decide +kernel
theorem d97_50 : decode (xcode 97) 50 = .ok (.isub, 1) := by decide +kernel
theorem d97_51 : decode (xcode 97) 51 = .ok (.ireturn, 1) := by decide +kernel
theorem d97_52 : decode (xcode 97) 52 = .ok (.aload_n 0, 1) := by decide +kernel
theorem d97_53 : decode (xcode 97) 53 = .ok (.dup, 1) := by decide +kernel
theorem d97_54 : decode (xcode 97) 54 = .ok (.getfield 48, 3) := by decide +kernel
theorem d97_57 : decode (xcode 97) 57 = .ok (.iconst 1, 1) := by decide +kernel
theorem d97_58 : decode (xcode 97) 58 = .ok (.iadd, 1) := by decide +kernel
theorem d97_59 : decode (xcode 97) 59 = .ok (.putfield 48, 3) := by decide +kernel
theorem d97_62 : decode (xcode 97) 62 = .ok (.aload_n 0, 1) := by decide +kernel
theorem d97_63 : decode (xcode 97) 63 = .ok (.getfield 48, 3) := by decide +kernel
theorem d97_66 : decode (xcode 97) 66 = .ok (.iconst 1, 1) := by decide +kernel
theorem d97_67 : decode (xcode 97) 67 = .ok (.isub, 1) := by decide +kernel
theorem d97_68 : decode (xcode 97) 68 = .ok (.ireturn, 1) := by decide +kernel
noncomputable def f_B_rule_e (h : xH) : Option (Int32 × xH) :=
  if (h.1 11 5 0) < (0 : Int32) then (
  some (((-1 : Int32), h))) else (
  if (h.1 11 5 0) < (6 : Int32) then (
  if xib (h.1 11 5 0) 6 then (
  (f_RuleReader_readAll (some (0 + (h.1 11 5 0).toNatClampNeg)) h).bind fun q6 =>
  xlet (xsI q6.2 7 6 0 (0 : Int32)) fun h7 =>
  if q6.1 = (0 : Int32) then (
  xlet (xsI h7 11 5 0 ((h7.1 11 5 0) + (1 : Int32))) fun h9 =>
  some (((h9.1 11 5 0) - (1 : Int32), h9))) else (
  some (((-2 : Int32) - q6.1, h7)))) else none) else (
  some (((-1 : Int32), h))))
set_option maxHeartbeats 4000000 in
set_option maxRecDepth 100000 in
theorem f_B_rule_e_ok {g : xG} {l : Launch} {d : Nat} {h : xH} {o : (Int32 × xH)} {R : Option xV} {H' : xH} (hD : 55 ≤ d) (hf : f_B_rule_e h = some o) (K0 : ∀ (a : Int32) (h1 : xH), o = (a, h1) → R = some (xi a) ∧ H' = h1) : xEv g l d 97 0 [(0, xr 11 (some 0))] [] h R H' := by
  unfold f_B_rule_e at hf
  refine xs_aload_n d97_0 rfl ?_
  refine xe_geti d97_1 ky97 fl152 fk11_5 ?_
  rcases lk_if hf with ⟨hc1, hf⟩ | ⟨hc1, hf⟩
  · refine xs_if_lt (tgt := 16) d97_4 (by decide) (fun _ => ?_) (fun hn => absurd hc1 hn)
    refine xs_iconst (v := -1) d97_16 (by decide) ?_
    obtain ⟨eR, eH⟩ := K0 _ _ (Option.some.inj hf).symm
    subst eR; subst eH
    exact xs_iret d97_17 rt97
  · refine xs_if_lt (tgt := 16) d97_4 (by decide) (fun hp => absurd hp hc1) (fun _ => ?_)
    refine xs_aload_n d97_7 rfl ?_
    refine xe_geti d97_8 ky97 fl152 fk11_5 ?_
    refine xs_bipush (v := 6) d97_11 (by decide) ?_
    rcases lk_if hf with ⟨hc2, hf⟩ | ⟨hc2, hf⟩
    · refine xs_icmp_lt (tgt := 18) d97_13 (by decide) (fun _ => ?_) (fun hn => absurd hc2 hn)
      refine xs_aload_n d97_18 rfl ?_
      refine xe_getc (j := 0) d97_19 ky97 fl149 fk11_2 rfl ?_
      refine xs_aload_n d97_22 rfl ?_
      refine xe_getc (j := 0) d97_23 ky97 fl151 fk11_4 rfl ?_
      refine xs_aload_n d97_26 rfl ?_
      refine xe_geti d97_27 ky97 fl152 fk11_5 ?_
      obtain ⟨hin3, hf⟩ := lk_g hf
      refine xe_aald d97_30 (by decide) ak43 ⟨by decide, by decide, by decide⟩ hin3 ?_
      obtain ⟨q6, hc5, hf⟩ := lk_b hf
      refine xe_callv1 (as := [xr 2 (some (0 + (h.1 11 5 0).toNatClampNeg))]) (st := []) (h2 := q6.2) (d2 := d - 1) d97_31 ky97 ml36 st13 (by decide) cn13 rfl na13 (Nat.le_of_ble_eq_true rfl) (by omega) (f_RuleReader_readAll_ok (by omega) hc5) ?_
      refine xe_istore_n (v := q6.1) (ls2 := [(0, xr 11 (some 0)), (1, xi q6.1)]) d97_34 mx97 (by decide) rfl rfl ?_
      refine xs_aload_n d97_35 rfl ?_
      refine xe_getc (j := 0) d97_36 ky97 fl147 fk11_0 rfl ?_
      refine xs_iconst (v := 0) d97_39 (by decide) ?_
      obtain ⟨h7, eh7, hf⟩ := lk_let hf
      refine xe_puti d97_40 ky97 fl7 fk7_6 ft7_6 eh7 ?_
      refine xs_iload_n d97_43 rfl ?_
      rcases lk_if hf with ⟨hc8, hf⟩ | ⟨hc8, hf⟩
      · refine xs_if_eq (tgt := 52) d97_44 (by decide) (fun _ => ?_) (fun hn => absurd hc8 hn)
        refine xs_aload_n d97_52 rfl ?_
        refine xs_dup d97_53 rfl ?_
        refine xe_geti d97_54 ky97 fl152 fk11_5 ?_
        refine xs_iconst (v := 1) d97_57 (by decide) ?_
        refine xs_iadd d97_58 ?_
        obtain ⟨h9, eh9, hf⟩ := lk_let hf
        refine xe_puti d97_59 ky97 fl152 fk11_5 ft11_5 eh9 ?_
        refine xs_aload_n d97_62 rfl ?_
        refine xe_geti d97_63 ky97 fl152 fk11_5 ?_
        refine xs_iconst (v := 1) d97_66 (by decide) ?_
        refine xs_isub d97_67 ?_
        obtain ⟨eR, eH⟩ := K0 _ _ (Option.some.inj hf).symm
        subst eR; subst eH
        exact xs_iret d97_68 rt97
      · refine xs_if_eq (tgt := 52) d97_44 (by decide) (fun hp => absurd hp hc8) (fun _ => ?_)
        refine xs_bipush (v := -2) d97_47 (by decide) ?_
        refine xs_iload_n d97_49 rfl ?_
        refine xs_isub d97_50 ?_
        obtain ⟨eR, eH⟩ := K0 _ _ (Option.some.inj hf).symm
        subst eR; subst eH
        exact xs_iret d97_51 rt97
    · refine xs_icmp_lt (tgt := 18) d97_13 (by decide) (fun hp => absurd hp hc2) (fun _ => ?_)
      refine xs_iconst (v := -1) d97_16 (by decide) ?_
      obtain ⟨eR, eH⟩ := K0 _ _ (Option.some.inj hf).symm
      subst eR; subst eH
      exact xs_iret d97_17 rt97
noncomputable def f_B_rule (h : xH) : Option (Int32 × xH) := f_B_rule_e h
theorem f_B_rule_ok {g : xG} {l : Launch} {d : Nat} {h : xH} {r : Int32} {h1 : xH} (hD : 55 ≤ d) (hf : f_B_rule h = some (r, h1)) : xC g l d 97 [xr 11 (some 0)] h (some (xi r)) h1 :=
  xC_of2 (by decide) mx97 (Nat.le_of_ble_eq_true rfl) (f_B_rule_e_ok hD hf (fun _ _ e => by cases e; exact ⟨rfl, rfl⟩))
theorem d98_0 : decode (xcode 98) 0 = .ok (.iload_n 1, 1) := by decide +kernel
theorem d98_1 : decode (xcode 98) 1 = .ok (.iconst (-1), 1) := by decide +kernel
theorem d98_2 : decode (xcode 98) 2 = .ok (.if_icmp .lt 11, 3) := by decide +kernel
theorem d98_5 : decode (xcode 98) 5 = .ok (.iload_n 1, 1) := by decide +kernel
theorem d98_6 : decode (xcode 98) 6 = .ok (.aload_n 0, 1) := by decide +kernel
theorem d98_7 : decode (xcode 98) 7 = .ok (.getfield 48, 3) := by decide +kernel
theorem d98_10 : decode (xcode 98) 10 = .ok (.if_icmp .lt 6, 3) := by decide +kernel
theorem d98_13 : decode (xcode 98) 13 = .ok (.bipush (-2), 2) := by decide +kernel
theorem d98_15 : decode (xcode 98) 15 = .ok (.ireturn, 1) := by decide +kernel
theorem d98_16 : decode (xcode 98) 16 = .ok (.aload_n 0, 1) := by decide +kernel
theorem d98_17 : decode (xcode 98) 17 = .ok (.getfield 55, 3) := by decide +kernel
theorem d98_20 : decode (xcode 98) 20 = .ok (.getfield 142, 3) := by decide +kernel
theorem d98_23 : decode (xcode 98) 23 = .ok (.istore_n 2, 1) := by decide +kernel
theorem d98_24 : decode (xcode 98) 24 = .ok (.aload_n 0, 1) := by decide +kernel
theorem d98_25 : decode (xcode 98) 25 = .ok (.getfield 55, 3) := by decide +kernel
theorem d98_28 : decode (xcode 98) 28 = .ok (.iload_n 1, 1) := by decide +kernel
theorem d98_29 : decode (xcode 98) 29 = .ok (.putfield 142, 3) := by decide +kernel
theorem d98_32 : decode (xcode 98) 32 = .ok (.iload_n 2, 1) := by decide +kernel
theorem d98_33 : decode (xcode 98) 33 = .ok (.ireturn, 1) := by decide +kernel
noncomputable def f_B_force_e (v1 : Int32) (h : xH) : Option (Int32 × xH) :=
  if v1 < (-1 : Int32) then (
  some (((-2 : Int32), h))) else (
  if v1 < (h.1 11 5 0) then (
  xlet (h.1 4 2 0) fun v2_3 =>
  xlet (xsI h 4 2 0 v1) fun h4 =>
  some ((v2_3, h4))) else (
  some (((-2 : Int32), h))))
set_option maxHeartbeats 4000000 in
set_option maxRecDepth 100000 in
theorem f_B_force_e_ok {g : xG} {l : Launch} {d : Nat} {v1 : Int32} {h : xH} {o : (Int32 × xH)} {R : Option xV} {H' : xH} (hD : 0 ≤ d) (hf : f_B_force_e v1 h = some o) (K0 : ∀ (a : Int32) (h1 : xH), o = (a, h1) → R = some (xi a) ∧ H' = h1) : xEv g l d 98 0 [(0, xr 11 (some 0)), (1, xi v1)] [] h R H' := by
  unfold f_B_force_e at hf
  refine xs_iload_n d98_0 rfl ?_
  refine xs_iconst (v := -1) d98_1 (by decide) ?_
  rcases lk_if hf with ⟨hc1, hf⟩ | ⟨hc1, hf⟩
  · refine xs_icmp_lt (tgt := 13) d98_2 (by decide) (fun _ => ?_) (fun hn => absurd hc1 hn)
    refine xs_bipush (v := -2) d98_13 (by decide) ?_
    obtain ⟨eR, eH⟩ := K0 _ _ (Option.some.inj hf).symm
    subst eR; subst eH
    exact xs_iret d98_15 rt98
  · refine xs_icmp_lt (tgt := 13) d98_2 (by decide) (fun hp => absurd hp hc1) (fun _ => ?_)
    refine xs_iload_n d98_5 rfl ?_
    refine xs_aload_n d98_6 rfl ?_
    refine xe_geti d98_7 ky98 fl152 fk11_5 ?_
    rcases lk_if hf with ⟨hc2, hf⟩ | ⟨hc2, hf⟩
    · refine xs_icmp_lt (tgt := 16) d98_10 (by decide) (fun _ => ?_) (fun hn => absurd hc2 hn)
      refine xs_aload_n d98_16 rfl ?_
      refine xe_getc (j := 0) d98_17 ky98 fl153 fk11_6 rfl ?_
      refine xe_geti d98_20 ky98 fl100 fk4_2 ?_
      obtain ⟨v2_3, ev2_3, hf⟩ := lk_let hf
      refine xe_istore_n (v := v2_3) (ls2 := [(0, xr 11 (some 0)), (1, xi v1), (2, xi v2_3)]) d98_23 mx98 (by decide) ev2_3 rfl ?_
      refine xs_aload_n d98_24 rfl ?_
      refine xe_getc (j := 0) d98_25 ky98 fl153 fk11_6 rfl ?_
      refine xs_iload_n d98_28 rfl ?_
      obtain ⟨h4, eh4, hf⟩ := lk_let hf
      refine xe_puti d98_29 ky98 fl100 fk4_2 ft4_2 eh4 ?_
      refine xs_iload_n d98_32 rfl ?_
      obtain ⟨eR, eH⟩ := K0 _ _ (Option.some.inj hf).symm
      subst eR; subst eH
      exact xs_iret d98_33 rt98
    · refine xs_icmp_lt (tgt := 16) d98_10 (by decide) (fun hp => absurd hp hc2) (fun _ => ?_)
      refine xs_bipush (v := -2) d98_13 (by decide) ?_
      obtain ⟨eR, eH⟩ := K0 _ _ (Option.some.inj hf).symm
      subst eR; subst eH
      exact xs_iret d98_15 rt98
noncomputable def f_B_force (v1 : Int32) (h : xH) : Option (Int32 × xH) := f_B_force_e v1 h
theorem f_B_force_ok {g : xG} {l : Launch} {d : Nat} {v1 : Int32} {h : xH} {r : Int32} {h1 : xH} (hD : 0 ≤ d) (hf : f_B_force v1 h = some (r, h1)) : xC g l d 98 [xr 11 (some 0), xi v1] h (some (xi r)) h1 :=
  xC_of2 (by decide) mx98 (Nat.le_of_ble_eq_true rfl) (f_B_force_e_ok hD hf (fun _ _ e => by cases e; exact ⟨rfl, rfl⟩))
theorem d99_0 : decode (xcode 99) 0 = .ok (.aload_n 0, 1) := by decide +kernel
theorem d99_1 : decode (xcode 99) 1 = .ok (.getfield 55, 3) := by decide +kernel
theorem d99_4 : decode (xcode 99) 4 = .ok (.getfield 114, 3) := by decide +kernel
theorem d99_7 : decode (xcode 99) 7 = .ok (.iload_n 1, 1) := by decide +kernel
theorem d99_8 : decode (xcode 99) 8 = .ok (.invokevirtual 145, 3) := by decide +kernel
theorem d99_11 : decode (xcode 99) 11 = .ok (.ifCond .ne 6, 3) := by decide +kernel
theorem d99_14 : decode (xcode 99) 14 = .ok (.bipush (-2), 2) := by decide +kernel
theorem d99_16 : decode (xcode 99) 16 = .ok (.ireturn, 1) := by decide +kernel
theorem d99_17 : decode (xcode 99) 17 = .ok (.iload_n 2, 1) := by decide +kernel
theorem d99_18 : decode (xcode 99) 18 = .ok (.tableswitch 115 0 5 #[38, 51, 64, 77, 89, 102], 38) := by decide +kernel
theorem d99_56 : decode (xcode 99) 56 = .ok (.aload_n 0, 1) := by decide +kernel
theorem d99_57 : decode (xcode 99) 57 = .ok (.getfield 55, 3) := by decide +kernel
theorem d99_60 : decode (xcode 99) 60 = .ok (.getfield 121, 3) := by decide +kernel
theorem d99_63 : decode (xcode 99) 63 = .ok (.getfield 148, 3) := by decide +kernel
theorem d99_66 : decode (xcode 99) 66 = .ok (.iload_n 1, 1) := by decide +kernel
theorem d99_67 : decode (xcode 99) 67 = .ok (.iaload, 1) := by decide +kernel
theorem d99_68 : decode (xcode 99) 68 = .ok (.ireturn, 1) := by decide +kernel
theorem d99_69 : decode (xcode 99) 69 = .ok (.aload_n 0, 1) := by decide +kernel
theorem d99_70 : decode (xcode 99) 70 = .ok (.getfield 55, 3) := by decide +kernel
theorem d99_73 : decode (xcode 99) 73 = .ok (.getfield 121, 3) := by decide +kernel
theorem d99_76 : decode (xcode 99) 76 = .ok (.getfield 151, 3) := by decide +kernel
theorem d99_79 : decode (xcode 99) 79 = .ok (.iload_n 1, 1) := by decide +kernel
theorem d99_80 : decode (xcode 99) 80 = .ok (.iaload, 1) := by decide +kernel
theorem d99_81 : decode (xcode 99) 81 = .ok (.ireturn, 1) := by decide +kernel
theorem d99_82 : decode (xcode 99) 82 = .ok (.aload_n 0, 1) := by decide +kernel
theorem d99_83 : decode (xcode 99) 83 = .ok (.getfield 55, 3) := by decide +kernel
theorem d99_86 : decode (xcode 99) 86 = .ok (.getfield 114, 3) := by decide +kernel
theorem d99_89 : decode (xcode 99) 89 = .ok (.getfield 154, 3) := by decide +kernel
theorem d99_92 : decode (xcode 99) 92 = .ok (.iload_n 1, 1) := by decide +kernel
theorem d99_93 : decode (xcode 99) 93 = .ok (.iaload, 1) := by decide +kernel
theorem d99_94 : decode (xcode 99) 94 = .ok (.ireturn, 1) := by decide +kernel
theorem d99_95 : decode (xcode 99) 95 = .ok (.aload_n 0, 1) := by decide +kernel
theorem d99_96 : decode (xcode 99) 96 = .ok (.getfield 55, 3) := by decide +kernel
theorem d99_99 : decode (xcode 99) 99 = .ok (.getfield 121, 3) := by decide +kernel
theorem d99_102 : decode (xcode 99) 102 = .ok (.iload_n 1, 1) := by decide +kernel
theorem d99_103 : decode (xcode 99) 103 = .ok (.invokevirtual 157, 3) := by decide +kernel
theorem d99_106 : decode (xcode 99) 106 = .ok (.ireturn, 1) := by decide +kernel
theorem d99_107 : decode (xcode 99) 107 = .ok (.aload_n 0, 1) := by decide +kernel
theorem d99_108 : decode (xcode 99) 108 = .ok (.getfield 55, 3) := by decide +kernel
theorem d99_111 : decode (xcode 99) 111 = .ok (.getfield 121, 3) := by decide +kernel
theorem d99_114 : decode (xcode 99) 114 = .ok (.getfield 161, 3) := by decide +kernel
theorem d99_117 : decode (xcode 99) 117 = .ok (.iload_n 1, 1) := by decide +kernel
theorem d99_118 : decode (xcode 99) 118 = .ok (.iaload, 1) := by decide +kernel
theorem d99_119 : decode (xcode 99) 119 = .ok (.ireturn, 1) := by decide +kernel
theorem d99_120 : decode (xcode 99) 120 = .ok (.aload_n 0, 1) := by decide +kernel
theorem d99_121 : decode (xcode 99) 121 = .ok (.getfield 55, 3) := by decide +kernel
theorem d99_124 : decode (xcode 99) 124 = .ok (.getfield 121, 3) := by decide +kernel
theorem d99_127 : decode (xcode 99) 127 = .ok (.getfield 164, 3) := by decide +kernel
theorem d99_130 : decode (xcode 99) 130 = .ok (.iload_n 1, 1) := by decide +kernel
theorem d99_131 : decode (xcode 99) 131 = .ok (.iaload, 1) := by decide +kernel
theorem d99_132 : decode (xcode 99) 132 = .ok (.ireturn, 1) := by decide +kernel
theorem d99_133 : decode (xcode 99) 133 = .ok (.bipush (-2), 2) := by decide +kernel
theorem d99_135 : decode (xcode 99) 135 = .ok (.ireturn, 1) := by decide +kernel
noncomputable def f_B_sorrow_e (v1 : Int32) (v2 : Int32) (h : xH) : Option Int32 :=
  (f_Told_hasSorrow 0 v1 h).bind fun r1 =>
  if r1 = (0 : Int32) then (
  some ((-2 : Int32))) else (
  if v2 = (0 : Int32) then (
  if xib v1 8 then (
  some (h.2.2.2.1 31 0 (v1).toNatClampNeg)) else none) else (
  if v2 = (1 : Int32) then (
  if xib v1 8 then (
  some (h.2.2.2.1 32 0 (v1).toNatClampNeg)) else none) else (
  if v2 = (2 : Int32) then (
  if xib v1 8 then (
  some (h.2.2.2.1 39 0 (v1).toNatClampNeg)) else none) else (
  if v2 = (3 : Int32) then (
  (f_State_standing 0 v1 h).bind fun r11 =>
  some (r11)) else (
  if v2 = (4 : Int32) then (
  if xib v1 8 then (
  some (h.2.2.2.1 29 0 (v1).toNatClampNeg)) else none) else (
  if v2 = (5 : Int32) then (
  if xib v1 8 then (
  some (h.2.2.2.1 30 0 (v1).toNatClampNeg)) else none) else (
  some ((-2 : Int32)))))))))
set_option maxHeartbeats 4000000 in
set_option maxRecDepth 100000 in
theorem f_B_sorrow_e_ok {g : xG} {l : Launch} {d : Nat} {v1 : Int32} {v2 : Int32} {h : xH} {o : Int32} {R : Option xV} (hD : 2 ≤ d) (hf : f_B_sorrow_e v1 v2 h = some o) (K0 : ∀ (a : Int32), o = a → R = some (xi a)) : xEv g l d 99 0 [(0, xr 11 (some 0)), (1, xi v1), (2, xi v2)] [] h R h := by
  unfold f_B_sorrow_e at hf
  refine xs_aload_n d99_0 rfl ?_
  refine xe_getc (j := 0) d99_1 ky99 fl153 fk11_6 rfl ?_
  refine xe_getc (j := 0) d99_4 ky99 fl96 fk4_0 rfl ?_
  refine xs_iload_n d99_7 rfl ?_
  obtain ⟨r1, hc2, hf⟩ := lk_b hf
  refine xe_callv1 (as := [xi v1]) (st := []) (h2 := h) (d2 := d - 1) d99_8 ky99 ml58 st76 (by decide) cn76 rfl na76 (Nat.le_of_ble_eq_true rfl) (by omega) (f_Told_hasSorrow_ok (by omega) hc2) ?_
  rcases lk_if hf with ⟨hc3, hf⟩ | ⟨hc3, hf⟩
  · refine xs_if_ne (tgt := 17) d99_11 (by decide) (fun _ => ?_) (fun hn => absurd hc3 hn)
    refine xs_bipush (v := -2) d99_14 (by decide) ?_
    obtain eR := K0 _ (Option.some.inj hf).symm
    subst eR
    exact xs_iret d99_16 rt99
  · refine xs_if_ne (tgt := 17) d99_11 (by decide) (fun hp => absurd hp hc3) (fun _ => ?_)
    refine xs_iload_n d99_17 rfl ?_
    rcases lk_if hf with ⟨hc4, hf⟩ | ⟨hc4, hf⟩
    · refine xs_tableIn (tgt := 56) d99_18 (by rw [hc4]; decide) (by rw [hc4]; decide) (by rw [hc4]; first | done | rfl) (by decide) ?_
      refine xs_aload_n d99_56 rfl ?_
      refine xe_getc (j := 0) d99_57 ky99 fl153 fk11_6 rfl ?_
      refine xe_getc (j := 0) d99_60 ky99 fl98 fk4_1 rfl ?_
      refine xe_getc (j := 0) d99_63 ky99 fl89 fk6_6 rfl ?_
      refine xs_iload_n d99_66 rfl ?_
      obtain ⟨hin5, hf⟩ := lk_g hf
      refine xe_iald d99_67 (by decide) ak31 hin5 ?_
      obtain eR := K0 _ (Option.some.inj hf).symm
      subst eR
      exact xs_iret d99_68 rt99
    · skip
      rcases lk_if hf with ⟨hc6, hf⟩ | ⟨hc6, hf⟩
      · refine xs_tableIn (tgt := 69) d99_18 (by rw [hc6]; decide) (by rw [hc6]; decide) (by rw [hc6]; first | done | rfl) (by decide) ?_
        refine xs_aload_n d99_69 rfl ?_
        refine xe_getc (j := 0) d99_70 ky99 fl153 fk11_6 rfl ?_
        refine xe_getc (j := 0) d99_73 ky99 fl98 fk4_1 rfl ?_
        refine xe_getc (j := 0) d99_76 ky99 fl93 fk6_7 rfl ?_
        refine xs_iload_n d99_79 rfl ?_
        obtain ⟨hin7, hf⟩ := lk_g hf
        refine xe_iald d99_80 (by decide) ak32 hin7 ?_
        obtain eR := K0 _ (Option.some.inj hf).symm
        subst eR
        exact xs_iret d99_81 rt99
      · skip
        rcases lk_if hf with ⟨hc8, hf⟩ | ⟨hc8, hf⟩
        · refine xs_tableIn (tgt := 82) d99_18 (by rw [hc8]; decide) (by rw [hc8]; decide) (by rw [hc8]; first | done | rfl) (by decide) ?_
          refine xs_aload_n d99_82 rfl ?_
          refine xe_getc (j := 0) d99_83 ky99 fl153 fk11_6 rfl ?_
          refine xe_getc (j := 0) d99_86 ky99 fl96 fk4_0 rfl ?_
          refine xe_getc (j := 0) d99_89 ky99 fl46 fk8_7 rfl ?_
          refine xs_iload_n d99_92 rfl ?_
          obtain ⟨hin9, hf⟩ := lk_g hf
          refine xe_iald d99_93 (by decide) ak39 hin9 ?_
          obtain eR := K0 _ (Option.some.inj hf).symm
          subst eR
          exact xs_iret d99_94 rt99
        · skip
          rcases lk_if hf with ⟨hc10, hf⟩ | ⟨hc10, hf⟩
          · refine xs_tableIn (tgt := 95) d99_18 (by rw [hc10]; decide) (by rw [hc10]; decide) (by rw [hc10]; first | done | rfl) (by decide) ?_
            refine xs_aload_n d99_95 rfl ?_
            refine xe_getc (j := 0) d99_96 ky99 fl153 fk11_6 rfl ?_
            refine xe_getc (j := 0) d99_99 ky99 fl98 fk4_1 rfl ?_
            refine xs_iload_n d99_102 rfl ?_
            obtain ⟨r11, hc12, hf⟩ := lk_b hf
            refine xe_callv1 (as := [xi v1]) (st := []) (h2 := h) (d2 := d - 1) d99_103 ky99 ml59 st50 (by decide) cn50 rfl na50 (Nat.le_of_ble_eq_true rfl) (by omega) (f_State_standing_ok (by omega) hc12) ?_
            obtain eR := K0 _ (Option.some.inj hf).symm
            subst eR
            exact xs_iret d99_106 rt99
          · skip
            rcases lk_if hf with ⟨hc13, hf⟩ | ⟨hc13, hf⟩
            · refine xs_tableIn (tgt := 107) d99_18 (by rw [hc13]; decide) (by rw [hc13]; decide) (by rw [hc13]; first | done | rfl) (by decide) ?_
              refine xs_aload_n d99_107 rfl ?_
              refine xe_getc (j := 0) d99_108 ky99 fl153 fk11_6 rfl ?_
              refine xe_getc (j := 0) d99_111 ky99 fl98 fk4_1 rfl ?_
              refine xe_getc (j := 0) d99_114 ky99 fl83 fk6_4 rfl ?_
              refine xs_iload_n d99_117 rfl ?_
              obtain ⟨hin14, hf⟩ := lk_g hf
              refine xe_iald d99_118 (by decide) ak29 hin14 ?_
              obtain eR := K0 _ (Option.some.inj hf).symm
              subst eR
              exact xs_iret d99_119 rt99
            · skip
              rcases lk_if hf with ⟨hc15, hf⟩ | ⟨hc15, hf⟩
              · refine xs_tableIn (tgt := 120) d99_18 (by rw [hc15]; decide) (by rw [hc15]; decide) (by rw [hc15]; first | done | rfl) (by decide) ?_
                refine xs_aload_n d99_120 rfl ?_
                refine xe_getc (j := 0) d99_121 ky99 fl153 fk11_6 rfl ?_
                refine xe_getc (j := 0) d99_124 ky99 fl98 fk4_1 rfl ?_
                refine xe_getc (j := 0) d99_127 ky99 fl86 fk6_5 rfl ?_
                refine xs_iload_n d99_130 rfl ?_
                obtain ⟨hin16, hf⟩ := lk_g hf
                refine xe_iald d99_131 (by decide) ak30 hin16 ?_
                obtain eR := K0 _ (Option.some.inj hf).symm
                subst eR
                exact xs_iret d99_132 rt99
              · skip
                refine xs_tableOut (tgt := 133) d99_18 (xsw_out (fun k q1 q2 => ?_)) (by decide) ?_
                · rcases (show k = 0 ∨ k = 1 ∨ k = 2 ∨ k = 3 ∨ k = 4 ∨ k = 5 by omega) with rfl | rfl | rfl | rfl | rfl | rfl
                  · exact fun e => hc4 (e.trans (by decide))
                  · exact fun e => hc6 (e.trans (by decide))
                  · exact fun e => hc8 (e.trans (by decide))
                  · exact fun e => hc10 (e.trans (by decide))
                  · exact fun e => hc13 (e.trans (by decide))
                  · exact fun e => hc15 (e.trans (by decide))
                · skip
                  refine xs_bipush (v := -2) d99_133 (by decide) ?_
                  obtain eR := K0 _ (Option.some.inj hf).symm
                  subst eR
                  exact xs_iret d99_135 rt99
noncomputable def f_B_sorrow (v1 : Int32) (v2 : Int32) (h : xH) : Option Int32 := f_B_sorrow_e v1 v2 h
theorem f_B_sorrow_ok {g : xG} {l : Launch} {d : Nat} {v1 : Int32} {v2 : Int32} {h : xH} {r : Int32} (hD : 2 ≤ d) (hf : f_B_sorrow v1 v2 h = some r) : xC g l d 99 [xr 11 (some 0), xi v1, xi v2] h (some (xi r)) h :=
  xC_of2 (by decide) mx99 (Nat.le_of_ble_eq_true rfl) (f_B_sorrow_e_ok hD hf (fun _ e => by rw [e]))
theorem d100_0 : decode (xcode 100) 0 = .ok (.iload_n 1, 1) := by decide +kernel
theorem d100_1 : decode (xcode 100) 1 = .ok (.ifCond .lt 17, 3) := by decide +kernel
theorem d100_4 : decode (xcode 100) 4 = .ok (.iload_n 1, 1) := by decide +kernel
theorem d100_5 : decode (xcode 100) 5 = .ok (.aload_n 0, 1) := by decide +kernel
theorem d100_6 : decode (xcode 100) 6 = .ok (.getfield 55, 3) := by decide +kernel
theorem d100_9 : decode (xcode 100) 9 = .ok (.getfield 114, 3) := by decide +kernel
theorem d100_12 : decode (xcode 100) 12 = .ok (.getfield 167, 3) := by decide +kernel
theorem d100_15 : decode (xcode 100) 15 = .ok (.if_icmp .lt 5, 3) := by decide +kernel
theorem d100_18 : decode (xcode 100) 18 = .ok (.iconst (-1), 1) := by decide +kernel
theorem d100_19 : decode (xcode 100) 19 = .ok (.ireturn, 1) := by decide +kernel
theorem d100_20 : decode (xcode 100) 20 = .ok (.aload_n 0, 1) := by decide +kernel
theorem d100_21 : decode (xcode 100) 21 = .ok (.getfield 55, 3) := by decide +kernel
theorem d100_24 : decode (xcode 100) 24 = .ok (.getfield 114, 3) := by decide +kernel
theorem d100_27 : decode (xcode 100) 27 = .ok (.getfield 170, 3) := by decide +kernel
theorem d100_30 : decode (xcode 100) 30 = .ok (.iload_n 1, 1) := by decide +kernel
theorem d100_31 : decode (xcode 100) 31 = .ok (.iaload, 1) := by decide +kernel
theorem d100_32 : decode (xcode 100) 32 = .ok (.ireturn, 1) := by decide +kernel
noncomputable def f_B_carrier_e (v1 : Int32) (h : xH) : Option Int32 :=
  if v1 < (0 : Int32) then (
  some ((-1 : Int32))) else (
  if v1 < (h.1 8 4 0) then (
  if xib v1 4 then (
  some (h.2.2.2.1 41 0 (v1).toNatClampNeg)) else none) else (
  some ((-1 : Int32))))
set_option maxHeartbeats 4000000 in
set_option maxRecDepth 100000 in
theorem f_B_carrier_e_ok {g : xG} {l : Launch} {d : Nat} {v1 : Int32} {h : xH} {o : Int32} {R : Option xV} (hD : 0 ≤ d) (hf : f_B_carrier_e v1 h = some o) (K0 : ∀ (a : Int32), o = a → R = some (xi a)) : xEv g l d 100 0 [(0, xr 11 (some 0)), (1, xi v1)] [] h R h := by
  unfold f_B_carrier_e at hf
  refine xs_iload_n d100_0 rfl ?_
  rcases lk_if hf with ⟨hc1, hf⟩ | ⟨hc1, hf⟩
  · refine xs_if_lt (tgt := 18) d100_1 (by decide) (fun _ => ?_) (fun hn => absurd hc1 hn)
    refine xs_iconst (v := -1) d100_18 (by decide) ?_
    obtain eR := K0 _ (Option.some.inj hf).symm
    subst eR
    exact xs_iret d100_19 rt100
  · refine xs_if_lt (tgt := 18) d100_1 (by decide) (fun hp => absurd hp hc1) (fun _ => ?_)
    refine xs_iload_n d100_4 rfl ?_
    refine xs_aload_n d100_5 rfl ?_
    refine xe_getc (j := 0) d100_6 ky100 fl153 fk11_6 rfl ?_
    refine xe_getc (j := 0) d100_9 ky100 fl96 fk4_0 rfl ?_
    refine xe_geti d100_12 ky100 fl36 fk8_4 ?_
    rcases lk_if hf with ⟨hc2, hf⟩ | ⟨hc2, hf⟩
    · refine xs_icmp_lt (tgt := 20) d100_15 (by decide) (fun _ => ?_) (fun hn => absurd hc2 hn)
      refine xs_aload_n d100_20 rfl ?_
      refine xe_getc (j := 0) d100_21 ky100 fl153 fk11_6 rfl ?_
      refine xe_getc (j := 0) d100_24 ky100 fl96 fk4_0 rfl ?_
      refine xe_getc (j := 0) d100_27 ky100 fl53 fk8_9 rfl ?_
      refine xs_iload_n d100_30 rfl ?_
      obtain ⟨hin3, hf⟩ := lk_g hf
      refine xe_iald d100_31 (by decide) ak41 hin3 ?_
      obtain eR := K0 _ (Option.some.inj hf).symm
      subst eR
      exact xs_iret d100_32 rt100
    · refine xs_icmp_lt (tgt := 20) d100_15 (by decide) (fun hp => absurd hp hc2) (fun _ => ?_)
      refine xs_iconst (v := -1) d100_18 (by decide) ?_
      obtain eR := K0 _ (Option.some.inj hf).symm
      subst eR
      exact xs_iret d100_19 rt100
noncomputable def f_B_carrier (v1 : Int32) (h : xH) : Option Int32 := f_B_carrier_e v1 h
theorem f_B_carrier_ok {g : xG} {l : Launch} {d : Nat} {v1 : Int32} {h : xH} {r : Int32} (hD : 0 ≤ d) (hf : f_B_carrier v1 h = some r) : xC g l d 100 [xr 11 (some 0), xi v1] h (some (xi r)) h :=
  xC_of2 (by decide) mx100 (Nat.le_of_ble_eq_true rfl) (f_B_carrier_e_ok hD hf (fun _ e => by rw [e]))
theorem d130_0 : decode (xcode 130) 0 = .ok (.iload_n 1, 1) := by decide +kernel
theorem d130_1 : decode (xcode 130) 1 = .ok (.ifCond .lt 26, 3) := by decide +kernel
theorem d130_4 : decode (xcode 130) 4 = .ok (.iload_n 1, 1) := by decide +kernel
theorem d130_5 : decode (xcode 130) 5 = .ok (.aload_n 0, 1) := by decide +kernel
theorem d130_6 : decode (xcode 130) 6 = .ok (.getfield 48, 3) := by decide +kernel
theorem d130_9 : decode (xcode 130) 9 = .ok (.if_icmp .ge 18, 3) := by decide +kernel
theorem d130_12 : decode (xcode 130) 12 = .ok (.iload_n 1, 1) := by decide +kernel
theorem d130_13 : decode (xcode 130) 13 = .ok (.bipush 6, 2) := by decide +kernel
theorem d130_15 : decode (xcode 130) 15 = .ok (.if_icmp .ge 12, 3) := by decide +kernel
theorem d130_18 : decode (xcode 130) 18 = .ok (.aload_n 0, 1) := by decide +kernel
theorem d130_19 : decode (xcode 130) 19 = .ok (.getfield 43, 3) := by decide +kernel
theorem d130_22 : decode (xcode 130) 22 = .ok (.iload_n 1, 1) := by decide +kernel
theorem d130_23 : decode (xcode 130) 23 = .ok (.aaload, 1) := by decide +kernel
theorem d130_24 : decode (xcode 130) 24 = .ok (.goto 4, 3) := by decide +kernel
theorem d130_27 : decode (xcode 130) 27 = .ok (.aconst_null, 1) := by decide +kernel
theorem d130_28 : decode (xcode 130) 28 = .ok (.areturn, 1) := by decide +kernel
noncomputable def f_B_ruleNumbered_b27 (h : xH) : Option (Option Nat) :=
  some ((none))
set_option maxHeartbeats 4000000 in
set_option maxRecDepth 100000 in
theorem f_B_ruleNumbered_b27_ok {g : xG} {l : Launch} {d : Nat} {h : xH} {o : (Option Nat)} {R : Option xV} (hD : 0 ≤ d) (hf : f_B_ruleNumbered_b27 h = some o) (K0 : ∀ (a : Option Nat), o = a → R = some (xr 2 a)) : xEv g l d 130 27 [] [] h R h := by
  unfold f_B_ruleNumbered_b27 at hf
  refine xs_null 2 d130_27 ?_
  obtain eR := K0 _ (Option.some.inj hf).symm
  subst eR
  exact xs_aret d130_28 rt130
noncomputable def f_B_ruleNumbered_e (v1 : Int32) (h : xH) : Option (Option Nat) :=
  if v1 < (0 : Int32) then (
  f_B_ruleNumbered_b27 h) else (
  if (h.1 11 5 0) ≤ v1 then (
  f_B_ruleNumbered_b27 h) else (
  if (6 : Int32) ≤ v1 then (
  f_B_ruleNumbered_b27 h) else (
  if xib v1 6 then (
  some ((some (0 + (v1).toNatClampNeg)))) else none)))
set_option maxHeartbeats 4000000 in
set_option maxRecDepth 100000 in
theorem f_B_ruleNumbered_e_ok {g : xG} {l : Launch} {d : Nat} {v1 : Int32} {h : xH} {o : (Option Nat)} {R : Option xV} (hD : 0 ≤ d) (hf : f_B_ruleNumbered_e v1 h = some o) (K0 : ∀ (a : Option Nat), o = a → R = some (xr 2 a)) : xEv g l d 130 0 [(0, xr 11 (some 0)), (1, xi v1)] [] h R h := by
  unfold f_B_ruleNumbered_e at hf
  refine xs_iload_n d130_0 rfl ?_
  rcases lk_if hf with ⟨hc1, hf⟩ | ⟨hc1, hf⟩
  · refine xs_if_lt (tgt := 27) d130_1 (by decide) (fun _ => ?_) (fun hn => absurd hc1 hn)
    refine xs_pick [] rfl ?_
    exact f_B_ruleNumbered_b27_ok hD hf K0
  · refine xs_if_lt (tgt := 27) d130_1 (by decide) (fun hp => absurd hp hc1) (fun _ => ?_)
    refine xs_iload_n d130_4 rfl ?_
    refine xs_aload_n d130_5 rfl ?_
    refine xe_geti d130_6 ky130 fl152 fk11_5 ?_
    rcases lk_if hf with ⟨hc2, hf⟩ | ⟨hc2, hf⟩
    · refine xs_icmp_ge (tgt := 27) d130_9 (by decide) (fun _ => ?_) (fun hn => absurd hc2 hn)
      refine xs_pick [] rfl ?_
      exact f_B_ruleNumbered_b27_ok hD hf K0
    · refine xs_icmp_ge (tgt := 27) d130_9 (by decide) (fun hp => absurd hp hc2) (fun _ => ?_)
      refine xs_iload_n d130_12 rfl ?_
      refine xs_bipush (v := 6) d130_13 (by decide) ?_
      rcases lk_if hf with ⟨hc3, hf⟩ | ⟨hc3, hf⟩
      · refine xs_icmp_ge (tgt := 27) d130_15 (by decide) (fun _ => ?_) (fun hn => absurd hc3 hn)
        refine xs_pick [] rfl ?_
        exact f_B_ruleNumbered_b27_ok hD hf K0
      · refine xs_icmp_ge (tgt := 27) d130_15 (by decide) (fun hp => absurd hp hc3) (fun _ => ?_)
        refine xs_aload_n d130_18 rfl ?_
        refine xe_getc (j := 0) d130_19 ky130 fl151 fk11_4 rfl ?_
        refine xs_iload_n d130_22 rfl ?_
        obtain ⟨hin4, hf⟩ := lk_g hf
        refine xe_aald d130_23 (by decide) ak43 ⟨by decide, by decide, by decide⟩ hin4 ?_
        refine xs_goto (tgt := 28) d130_24 (by decide) ?_
        obtain eR := K0 _ (Option.some.inj hf).symm
        subst eR
        exact xs_aret d130_28 rt130
noncomputable def f_B_ruleNumbered (v1 : Int32) (h : xH) : Option (Option Nat) := f_B_ruleNumbered_e v1 h
theorem f_B_ruleNumbered_ok {g : xG} {l : Launch} {d : Nat} {v1 : Int32} {h : xH} {r : Option Nat} (hD : 0 ≤ d) (hf : f_B_ruleNumbered v1 h = some r) : xC g l d 130 [xr 11 (some 0), xi v1] h (some (xr 2 r)) h :=
  xC_of2 (by decide) mx130 (Nat.le_of_ble_eq_true rfl) (f_B_ruleNumbered_e_ok hD hf (fun _ e => by rw [e]))
theorem d131_0 : decode (xcode 131) 0 = .ok (.aload_n 0, 1) := by decide +kernel
theorem d131_1 : decode (xcode 131) 1 = .ok (.getfield 77, 3) := by decide +kernel
theorem d131_4 : decode (xcode 131) 4 = .ok (.aload_n 0, 1) := by decide +kernel
theorem d131_5 : decode (xcode 131) 5 = .ok (.getfield 55, 3) := by decide +kernel
theorem d131_8 : decode (xcode 131) 8 = .ok (.getfield 114, 3) := by decide +kernel
theorem d131_11 : decode (xcode 131) 11 = .ok (.aload_n 0, 1) := by decide +kernel
theorem d131_12 : decode (xcode 131) 12 = .ok (.getfield 55, 3) := by decide +kernel
theorem d131_15 : decode (xcode 131) 15 = .ok (.getfield 121, 3) := by decide +kernel
theorem d131_18 : decode (xcode 131) 18 = .ok (.aload_n 0, 1) := by decide +kernel
theorem d131_19 : decode (xcode 131) 19 = .ok (.aload_n 0, 1) := by decide +kernel
theorem d131_20 : decode (xcode 131) 20 = .ok (.getfield 55, 3) := by decide +kernel
theorem d131_23 : decode (xcode 131) 23 = .ok (.getfield 142, 3) := by decide +kernel
theorem d131_26 : decode (xcode 131) 26 = .ok (.invokevirtual 344, 3) := by decide +kernel
theorem d131_29 : decode (xcode 131) 29 = .ok (.invokevirtual 348, 3) := by decide +kernel
theorem d131_32 : decode (xcode 131) 32 = .ok (.return_, 1) := by decide +kernel
noncomputable def f_B_startNow_e (h : xH) : Option xH :=
  (f_B_ruleNumbered (h.1 4 2 0) h).bind fun r1 =>
  (f_Walk_start 0 0 (r1) h).bind fun h5 =>
  some (h5)
set_option maxHeartbeats 4000000 in
set_option maxRecDepth 100000 in
theorem f_B_startNow_e_ok {g : xG} {l : Launch} {d : Nat} {h : xH} {o : xH} {R : Option xV} {H' : xH} (hD : 3 ≤ d) (hf : f_B_startNow_e h = some o) (K0 : ∀ (h1 : xH), o = h1 → R = none ∧ H' = h1) : xEv g l d 131 0 [(0, xr 11 (some 0))] [] h R H' := by
  unfold f_B_startNow_e at hf
  refine xs_aload_n d131_0 rfl ?_
  refine xe_getc (j := 0) d131_1 ky131 fl157 fk11_10 rfl ?_
  refine xs_aload_n d131_4 rfl ?_
  refine xe_getc (j := 0) d131_5 ky131 fl153 fk11_6 rfl ?_
  refine xe_getc (j := 0) d131_8 ky131 fl96 fk4_0 rfl ?_
  refine xs_aload_n d131_11 rfl ?_
  refine xe_getc (j := 0) d131_12 ky131 fl153 fk11_6 rfl ?_
  refine xe_getc (j := 0) d131_15 ky131 fl98 fk4_1 rfl ?_
  refine xs_aload_n d131_18 rfl ?_
  refine xs_aload_n d131_19 rfl ?_
  refine xe_getc (j := 0) d131_20 ky131 fl153 fk11_6 rfl ?_
  refine xe_geti d131_23 ky131 fl100 fk4_2 ?_
  obtain ⟨r1, hc2, hf⟩ := lk_b hf
  refine xe_callv1 (as := [xi (h.1 4 2 0)]) (st := [xr 6 (some 0), xr 8 (some 0), xr 10 (some 0)]) (h2 := h) (d2 := d - 1) d131_26 ky131 ml68 st130 (by decide) cn130 rfl na130 (Nat.le_of_ble_eq_true rfl) (by omega) (f_B_ruleNumbered_ok (by omega) hc2) ?_
  obtain ⟨h5, hc4, hf⟩ := lk_b hf
  refine xe_callv0 (as := [xr 8 (some 0), xr 6 (some 0), xr 2 (r1)]) (st := []) (h2 := h5) (d2 := d - 1) d131_29 ky131 ml69 st85 (by decide) cn85 rfl na85 (Nat.le_of_ble_eq_true rfl) (by omega) (f_Walk_start_ok (by omega) hc4) ?_
  obtain ⟨eR, eH⟩ := K0 _ (Option.some.inj hf).symm
  subst eR; subst eH
  exact xs_vret d131_32 rt131
noncomputable def f_B_startNow (h : xH) : Option xH := f_B_startNow_e h
theorem f_B_startNow_ok {g : xG} {l : Launch} {d : Nat} {h : xH} {h1 : xH} (hD : 3 ≤ d) (hf : f_B_startNow h = some h1) : xC g l d 131 [xr 11 (some 0)] h none h1 :=
  xC_of2 (by decide) mx131 (Nat.le_of_ble_eq_true rfl) (f_B_startNow_e_ok hD hf (fun _ e => ⟨rfl, e⟩))
theorem d101_0 : decode (xcode 101) 0 = .ok (.aload_n 0, 1) := by decide +kernel
theorem d101_1 : decode (xcode 101) 1 = .ok (.getfield 55, 3) := by decide +kernel
theorem d101_4 : decode (xcode 101) 4 = .ok (.getfield 114, 3) := by decide +kernel
theorem d101_7 : decode (xcode 101) 7 = .ok (.getfield 173, 3) := by decide +kernel
theorem d101_10 : decode (xcode 101) 10 = .ok (.ifCond .eq 19, 3) := by decide +kernel
theorem d101_13 : decode (xcode 101) 13 = .ok (.aload_n 0, 1) := by decide +kernel
theorem d101_14 : decode (xcode 101) 14 = .ok (.getfield 55, 3) := by decide +kernel
theorem d101_17 : decode (xcode 101) 17 = .ok (.getfield 121, 3) := by decide +kernel
theorem d101_20 : decode (xcode 101) 20 = .ok (.getfield 177, 3) := by decide +kernel
theorem d101_23 : decode (xcode 101) 23 = .ok (.sipush 999, 3) := by decide +kernel
theorem d101_26 : decode (xcode 101) 26 = .ok (.if_icmp .lt 5, 3) := by decide +kernel
theorem d101_29 : decode (xcode 101) 29 = .ok (.iconst (-1), 1) := by decide +kernel
theorem d101_30 : decode (xcode 101) 30 = .ok (.ireturn, 1) := by decide +kernel
theorem d101_31 : decode (xcode 101) 31 = .ok (.aload_n 0, 1) := by decide +kernel
theorem d101_32 : decode (xcode 101) 32 = .ok (.getfield 70, 3) := by decide +kernel
theorem d101_35 : decode (xcode 101) 35 = .ok (.aload_n 0, 1) := by decide +kernel
theorem d101_36 : decode (xcode 101) 36 = .ok (.getfield 55, 3) := by decide +kernel
theorem d101_39 : decode (xcode 101) 39 = .ok (.getfield 121, 3) := by decide +kernel
theorem d101_42 : decode (xcode 101) 42 = .ok (.invokevirtual 180, 3) := by decide +kernel
theorem d101_45 : decode (xcode 101) 45 = .ok (.aload_n 0, 1) := by decide +kernel
theorem d101_46 : decode (xcode 101) 46 = .ok (.invokevirtual 184, 3) := by decide +kernel
theorem d101_49 : decode (xcode 101) 49 = .ok (.aload_n 0, 1) := by decide +kernel
theorem d101_50 : decode (xcode 101) 50 = .ok (.getfield 77, 3) := by decide +kernel
theorem d101_53 : decode (xcode 101) 53 = .ok (.invokevirtual 187, 3) := by decide +kernel
theorem d101_56 : decode (xcode 101) 56 = .ok (.istore_n 1, 1) := by decide +kernel
theorem d101_57 : decode (xcode 101) 57 = .ok (.aload_n 0, 1) := by decide +kernel
theorem d101_58 : decode (xcode 101) 58 = .ok (.getfield 55, 3) := by decide +kernel
theorem d101_61 : decode (xcode 101) 61 = .ok (.getfield 121, 3) := by decide +kernel
theorem d101_64 : decode (xcode 101) 64 = .ok (.aload_n 0, 1) := by decide +kernel
theorem d101_65 : decode (xcode 101) 65 = .ok (.getfield 77, 3) := by decide +kernel
theorem d101_68 : decode (xcode 101) 68 = .ok (.getfield 190, 3) := by decide +kernel
theorem d101_71 : decode (xcode 101) 71 = .ok (.invokevirtual 191, 3) := by decide +kernel
theorem d101_74 : decode (xcode 101) 74 = .ok (.iload_n 1, 1) := by decide +kernel
theorem d101_75 : decode (xcode 101) 75 = .ok (.iconst (-1), 1) := by decide +kernel
theorem d101_76 : decode (xcode 101) 76 = .ok (.if_icmp .ne 8, 3) := by decide +kernel
theorem d101_79 : decode (xcode 101) 79 = .ok (.bipush (-2), 2) := by decide +kernel
theorem d101_81 : decode (xcode 101) 81 = .ok (.goto 4, 3) := by decide +kernel
theorem d101_84 : decode (xcode 101) 84 = .ok (.iload_n 1, 1) := by decide +kernel
theorem d101_85 : decode (xcode 101) 85 = .ok (.ireturn, 1) := by decide +kernel
noncomputable def f_B_step_e (h : xH) : Option (Int32 × xH) :=
  if (h.1 8 0 0) = (0 : Int32) then (
  some (((-1 : Int32), h))) else (
  if (h.1 6 1 0) < (999 : Int32) then (
  (f_Past_keep 0 h).bind fun h5 =>
  (f_B_startNow h5).bind fun h8 =>
  (f_Walk_goOn h8).bind fun q11 =>
  (f_State_copyFrom 0 25 q11.2).bind fun h14 =>
  if q11.1 = (-1 : Int32) then (
  some (((-2 : Int32), h14))) else (
  some ((q11.1, h14)))) else (
  some (((-1 : Int32), h))))
set_option maxHeartbeats 4000000 in
set_option maxRecDepth 100000 in
theorem f_B_step_e_ok {g : xG} {l : Launch} {d : Nat} {h : xH} {o : (Int32 × xH)} {R : Option xV} {H' : xH} (hD : 5 ≤ d) (hf : f_B_step_e h = some o) (K0 : ∀ (a : Int32) (h1 : xH), o = (a, h1) → R = some (xi a) ∧ H' = h1) : xEv g l d 101 0 [(0, xr 11 (some 0))] [] h R H' := by
  unfold f_B_step_e at hf
  refine xs_aload_n d101_0 rfl ?_
  refine xe_getc (j := 0) d101_1 ky101 fl153 fk11_6 rfl ?_
  refine xe_getc (j := 0) d101_4 ky101 fl96 fk4_0 rfl ?_
  refine xe_geti d101_7 ky101 fl19 fk8_0 ?_
  rcases lk_if hf with ⟨hc1, hf⟩ | ⟨hc1, hf⟩
  · refine xs_if_eq (tgt := 29) d101_10 (by decide) (fun _ => ?_) (fun hn => absurd hc1 hn)
    refine xs_iconst (v := -1) d101_29 (by decide) ?_
    obtain ⟨eR, eH⟩ := K0 _ _ (Option.some.inj hf).symm
    subst eR; subst eH
    exact xs_iret d101_30 rt101
  · refine xs_if_eq (tgt := 29) d101_10 (by decide) (fun hp => absurd hp hc1) (fun _ => ?_)
    refine xs_aload_n d101_13 rfl ?_
    refine xe_getc (j := 0) d101_14 ky101 fl153 fk11_6 rfl ?_
    refine xe_getc (j := 0) d101_17 ky101 fl98 fk4_1 rfl ?_
    refine xe_geti d101_20 ky101 fl73 fk6_1 ?_
    refine xs_sipush (v := 999) d101_23 (by decide) ?_
    rcases lk_if hf with ⟨hc2, hf⟩ | ⟨hc2, hf⟩
    · refine xs_icmp_lt (tgt := 31) d101_26 (by decide) (fun _ => ?_) (fun hn => absurd hc2 hn)
      refine xs_aload_n d101_31 rfl ?_
      refine xe_getc (j := 0) d101_32 ky101 fl156 fk11_9 rfl ?_
      refine xs_aload_n d101_35 rfl ?_
      refine xe_getc (j := 0) d101_36 ky101 fl153 fk11_6 rfl ?_
      refine xe_getc (j := 0) d101_39 ky101 fl98 fk4_1 rfl ?_
      obtain ⟨h5, hc4, hf⟩ := lk_b hf
      refine xe_callv0 (as := [xr 6 (some 0)]) (st := []) (h2 := h5) (d2 := d - 1) d101_42 ky101 ml64 st6 (by decide) cn6 rfl na6 (Nat.le_of_ble_eq_true rfl) (by omega) (f_Past_keep_ok (by omega) hc4) ?_
      refine xs_aload_n d101_45 rfl ?_
      obtain ⟨h8, hc7, hf⟩ := lk_b hf
      refine xe_callv0 (as := []) (st := []) (h2 := h8) (d2 := d - 1) d101_46 ky101 ml67 st131 (by decide) cn131 rfl na131 (Nat.le_of_ble_eq_true rfl) (by omega) (f_B_startNow_ok (by omega) hc7) ?_
      refine xs_aload_n d101_49 rfl ?_
      refine xe_getc (j := 0) d101_50 ky101 fl157 fk11_10 rfl ?_
      obtain ⟨q11, hc10, hf⟩ := lk_b hf
      refine xe_callv1 (as := []) (st := []) (h2 := q11.2) (d2 := d - 1) d101_53 ky101 ml71 st87 (by decide) cn87 rfl na87 (Nat.le_of_ble_eq_true rfl) (by omega) (f_Walk_goOn_ok (by omega) hc10) ?_
      refine xe_istore_n (v := q11.1) (ls2 := [(0, xr 11 (some 0)), (1, xi q11.1)]) d101_56 mx101 (by decide) rfl rfl ?_
      refine xs_aload_n d101_57 rfl ?_
      refine xe_getc (j := 0) d101_58 ky101 fl153 fk11_6 rfl ?_
      refine xe_getc (j := 0) d101_61 ky101 fl98 fk4_1 rfl ?_
      refine xs_aload_n d101_64 rfl ?_
      refine xe_getc (j := 0) d101_65 ky101 fl157 fk11_10 rfl ?_
      refine xe_getc (j := 25) d101_68 ky101 fl112 fk10_0 rfl ?_
      obtain ⟨h14, hc13, hf⟩ := lk_b hf
      refine xe_callv0 (as := [xr 6 (some 25)]) (st := []) (h2 := h14) (d2 := d - 1) d101_71 ky101 ml91 st46 (by decide) cn46 rfl na46 (Nat.le_of_ble_eq_true rfl) (by omega) (f_State_copyFrom_ok (by omega) hc13) ?_
      refine xs_iload_n d101_74 rfl ?_
      refine xs_iconst (v := -1) d101_75 (by decide) ?_
      rcases lk_if hf with ⟨hc15, hf⟩ | ⟨hc15, hf⟩
      · refine xs_icmp_ne (tgt := 84) d101_76 (by decide) (fun _ => ?_) (fun hn => absurd hc15 hn)
        refine xs_bipush (v := -2) d101_79 (by decide) ?_
        refine xs_goto (tgt := 85) d101_81 (by decide) ?_
        obtain ⟨eR, eH⟩ := K0 _ _ (Option.some.inj hf).symm
        subst eR; subst eH
        exact xs_iret d101_85 rt101
      · refine xs_icmp_ne (tgt := 84) d101_76 (by decide) (fun hp => absurd hp hc15) (fun _ => ?_)
        refine xs_iload_n d101_84 rfl ?_
        obtain ⟨eR, eH⟩ := K0 _ _ (Option.some.inj hf).symm
        subst eR; subst eH
        exact xs_iret d101_85 rt101
    · refine xs_icmp_lt (tgt := 31) d101_26 (by decide) (fun hp => absurd hp hc2) (fun _ => ?_)
      refine xs_iconst (v := -1) d101_29 (by decide) ?_
      obtain ⟨eR, eH⟩ := K0 _ _ (Option.some.inj hf).symm
      subst eR; subst eH
      exact xs_iret d101_30 rt101
noncomputable def f_B_step (h : xH) : Option (Int32 × xH) := f_B_step_e h
theorem f_B_step_ok {g : xG} {l : Launch} {d : Nat} {h : xH} {r : Int32} {h1 : xH} (hD : 5 ≤ d) (hf : f_B_step h = some (r, h1)) : xC g l d 101 [xr 11 (some 0)] h (some (xi r)) h1 :=
  xC_of2 (by decide) mx101 (Nat.le_of_ble_eq_true rfl) (f_B_step_e_ok hD hf (fun _ _ e => by cases e; exact ⟨rfl, rfl⟩))
theorem d102_0 : decode (xcode 102) 0 = .ok (.aload_n 0, 1) := by decide +kernel
theorem d102_1 : decode (xcode 102) 1 = .ok (.getfield 55, 3) := by decide +kernel
theorem d102_4 : decode (xcode 102) 4 = .ok (.getfield 121, 3) := by decide +kernel
theorem d102_7 : decode (xcode 102) 7 = .ok (.iload_n 1, 1) := by decide +kernel
theorem d102_8 : decode (xcode 102) 8 = .ok (.invokevirtual 193, 3) := by decide +kernel
theorem d102_11 : decode (xcode 102) 11 = .ok (.ifCond .ne 5, 3) := by decide +kernel
theorem d102_14 : decode (xcode 102) 14 = .ok (.iconst (-1), 1) := by decide +kernel
theorem d102_15 : decode (xcode 102) 15 = .ok (.ireturn, 1) := by decide +kernel
theorem d102_16 : decode (xcode 102) 16 = .ok (.aload_n 0, 1) := by decide +kernel
theorem d102_17 : decode (xcode 102) 17 = .ok (.getfield 70, 3) := by decide +kernel
theorem d102_20 : decode (xcode 102) 20 = .ok (.aload_n 0, 1) := by decide +kernel
theorem d102_21 : decode (xcode 102) 21 = .ok (.getfield 55, 3) := by decide +kernel
theorem d102_24 : decode (xcode 102) 24 = .ok (.getfield 121, 3) := by decide +kernel
theorem d102_27 : decode (xcode 102) 27 = .ok (.invokevirtual 180, 3) := by decide +kernel
theorem d102_30 : decode (xcode 102) 30 = .ok (.aload_n 0, 1) := by decide +kernel
theorem d102_31 : decode (xcode 102) 31 = .ok (.getfield 55, 3) := by decide +kernel
theorem d102_34 : decode (xcode 102) 34 = .ok (.getfield 121, 3) := by decide +kernel
theorem d102_37 : decode (xcode 102) 37 = .ok (.iload_n 1, 1) := by decide +kernel
theorem d102_38 : decode (xcode 102) 38 = .ok (.aload_n 0, 1) := by decide +kernel
theorem d102_39 : decode (xcode 102) 39 = .ok (.getfield 55, 3) := by decide +kernel
theorem d102_42 : decode (xcode 102) 42 = .ok (.getfield 114, 3) := by decide +kernel
theorem d102_45 : decode (xcode 102) 45 = .ok (.getfield 196, 3) := by decide +kernel
theorem d102_48 : decode (xcode 102) 48 = .ok (.invokevirtual 199, 3) := by decide +kernel
theorem d102_51 : decode (xcode 102) 51 = .ok (.aload_n 0, 1) := by decide +kernel
theorem d102_52 : decode (xcode 102) 52 = .ok (.getfield 55, 3) := by decide +kernel
theorem d102_55 : decode (xcode 102) 55 = .ok (.getfield 121, 3) := by decide +kernel
theorem d102_58 : decode (xcode 102) 58 = .ok (.getfield 203, 3) := by decide +kernel
theorem d102_61 : decode (xcode 102) 61 = .ok (.ireturn, 1) := by decide +kernel
noncomputable def f_B_take_e (v1 : Int32) (h : xH) : Option (Int32 × xH) :=
  (f_State_isLoose 0 v1 h).bind fun r1 =>
  if r1 = (0 : Int32) then (
  some (((-1 : Int32), h))) else (
  (f_Past_keep 0 h).bind fun h6 =>
  (f_State_lift 0 v1 (h6.1 8 1 0) h6).bind fun h9 =>
  some ((h9.1 6 0 0, h9)))
set_option maxHeartbeats 4000000 in
set_option maxRecDepth 100000 in
theorem f_B_take_e_ok {g : xG} {l : Launch} {d : Nat} {v1 : Int32} {h : xH} {o : (Int32 × xH)} {R : Option xV} {H' : xH} (hD : 3 ≤ d) (hf : f_B_take_e v1 h = some o) (K0 : ∀ (a : Int32) (h1 : xH), o = (a, h1) → R = some (xi a) ∧ H' = h1) : xEv g l d 102 0 [(0, xr 11 (some 0)), (1, xi v1)] [] h R H' := by
  unfold f_B_take_e at hf
  refine xs_aload_n d102_0 rfl ?_
  refine xe_getc (j := 0) d102_1 ky102 fl153 fk11_6 rfl ?_
  refine xe_getc (j := 0) d102_4 ky102 fl98 fk4_1 rfl ?_
  refine xs_iload_n d102_7 rfl ?_
  obtain ⟨r1, hc2, hf⟩ := lk_b hf
  refine xe_callv1 (as := [xi v1]) (st := []) (h2 := h) (d2 := d - 1) d102_8 ky102 ml93 st49 (by decide) cn49 rfl na49 (Nat.le_of_ble_eq_true rfl) (by omega) (f_State_isLoose_ok (by omega) hc2) ?_
  rcases lk_if hf with ⟨hc3, hf⟩ | ⟨hc3, hf⟩
  · refine xs_if_ne (tgt := 16) d102_11 (by decide) (fun _ => ?_) (fun hn => absurd hc3 hn)
    refine xs_iconst (v := -1) d102_14 (by decide) ?_
    obtain ⟨eR, eH⟩ := K0 _ _ (Option.some.inj hf).symm
    subst eR; subst eH
    exact xs_iret d102_15 rt102
  · refine xs_if_ne (tgt := 16) d102_11 (by decide) (fun hp => absurd hp hc3) (fun _ => ?_)
    refine xs_aload_n d102_16 rfl ?_
    refine xe_getc (j := 0) d102_17 ky102 fl156 fk11_9 rfl ?_
    refine xs_aload_n d102_20 rfl ?_
    refine xe_getc (j := 0) d102_21 ky102 fl153 fk11_6 rfl ?_
    refine xe_getc (j := 0) d102_24 ky102 fl98 fk4_1 rfl ?_
    obtain ⟨h6, hc5, hf⟩ := lk_b hf
    refine xe_callv0 (as := [xr 6 (some 0)]) (st := []) (h2 := h6) (d2 := d - 1) d102_27 ky102 ml64 st6 (by decide) cn6 rfl na6 (Nat.le_of_ble_eq_true rfl) (by omega) (f_Past_keep_ok (by omega) hc5) ?_
    refine xs_aload_n d102_30 rfl ?_
    refine xe_getc (j := 0) d102_31 ky102 fl153 fk11_6 rfl ?_
    refine xe_getc (j := 0) d102_34 ky102 fl98 fk4_1 rfl ?_
    refine xs_iload_n d102_37 rfl ?_
    refine xs_aload_n d102_38 rfl ?_
    refine xe_getc (j := 0) d102_39 ky102 fl153 fk11_6 rfl ?_
    refine xe_getc (j := 0) d102_42 ky102 fl96 fk4_0 rfl ?_
    refine xe_geti d102_45 ky102 fl24 fk8_1 ?_
    obtain ⟨h9, hc8, hf⟩ := lk_b hf
    refine xe_callv0 (as := [xi v1, xi (h6.1 8 1 0)]) (st := []) (h2 := h9) (d2 := d - 1) d102_48 ky102 ml94 st55 (by decide) cn55 rfl na55 (Nat.le_of_ble_eq_true rfl) (by omega) (f_State_lift_ok (by omega) hc8) ?_
    refine xs_aload_n d102_51 rfl ?_
    refine xe_getc (j := 0) d102_52 ky102 fl153 fk11_6 rfl ?_
    refine xe_getc (j := 0) d102_55 ky102 fl98 fk4_1 rfl ?_
    refine xe_geti d102_58 ky102 fl70 fk6_0 ?_
    obtain ⟨eR, eH⟩ := K0 _ _ (Option.some.inj hf).symm
    subst eR; subst eH
    exact xs_iret d102_61 rt102
noncomputable def f_B_take (v1 : Int32) (h : xH) : Option (Int32 × xH) := f_B_take_e v1 h
theorem f_B_take_ok {g : xG} {l : Launch} {d : Nat} {v1 : Int32} {h : xH} {r : Int32} {h1 : xH} (hD : 3 ≤ d) (hf : f_B_take v1 h = some (r, h1)) : xC g l d 102 [xr 11 (some 0), xi v1] h (some (xi r)) h1 :=
  xC_of2 (by decide) mx102 (Nat.le_of_ble_eq_true rfl) (f_B_take_e_ok hD hf (fun _ _ e => by cases e; exact ⟨rfl, rfl⟩))
theorem d103_0 : decode (xcode 103) 0 = .ok (.aload_n 0, 1) := by decide +kernel
theorem d103_1 : decode (xcode 103) 1 = .ok (.getfield 55, 3) := by decide +kernel
theorem d103_4 : decode (xcode 103) 4 = .ok (.getfield 114, 3) := by decide +kernel
theorem d103_7 : decode (xcode 103) 7 = .ok (.getfield 173, 3) := by decide +kernel
theorem d103_10 : decode (xcode 103) 10 = .ok (.ifCond .eq 14, 3) := by decide +kernel
theorem d103_13 : decode (xcode 103) 13 = .ok (.iload_n 1, 1) := by decide +kernel
theorem d103_14 : decode (xcode 103) 14 = .ok (.iconst 1, 1) := by decide +kernel
theorem d103_15 : decode (xcode 103) 15 = .ok (.if_icmp .lt 9, 3) := by decide +kernel
theorem d103_18 : decode (xcode 103) 18 = .ok (.iload_n 1, 1) := by decide +kernel
theorem d103_19 : decode (xcode 103) 19 = .ok (.bipush 60, 2) := by decide +kernel
theorem d103_21 : decode (xcode 103) 21 = .ok (.if_icmp .le 5, 3) := by decide +kernel
theorem d103_24 : decode (xcode 103) 24 = .ok (.iconst (-1), 1) := by decide +kernel
theorem d103_25 : decode (xcode 103) 25 = .ok (.ireturn, 1) := by decide +kernel
theorem d103_26 : decode (xcode 103) 26 = .ok (.aload_n 0, 1) := by decide +kernel
theorem d103_27 : decode (xcode 103) 27 = .ok (.getfield 55, 3) := by decide +kernel
theorem d103_30 : decode (xcode 103) 30 = .ok (.getfield 121, 3) := by decide +kernel
theorem d103_33 : decode (xcode 103) 33 = .ok (.getfield 203, 3) := by decide +kernel
theorem d103_36 : decode (xcode 103) 36 = .ok (.iload_n 1, 1) := by decide +kernel
theorem d103_37 : decode (xcode 103) 37 = .ok (.iadd, 1) := by decide +kernel
theorem d103_38 : decode (xcode 103) 38 = .ok (.sipush 9999, 3) := by decide +kernel
theorem d103_41 : decode (xcode 103) 41 = .ok (.if_icmp .le 5, 3) := by decide +kernel
theorem d103_44 : decode (xcode 103) 44 = .ok (.iconst (-1), 1) := by decide +kernel
theorem d103_45 : decode (xcode 103) 45 = .ok (.ireturn, 1) := by decide +kernel
theorem d103_46 : decode (xcode 103) 46 = .ok (.aload_n 0, 1) := by decide +kernel
theorem d103_47 : decode (xcode 103) 47 = .ok (.getfield 70, 3) := by decide +kernel
theorem d103_50 : decode (xcode 103) 50 = .ok (.aload_n 0, 1) := by decide +kernel
theorem d103_51 : decode (xcode 103) 51 = .ok (.getfield 55, 3) := by decide +kernel
theorem d103_54 : decode (xcode 103) 54 = .ok (.getfield 121, 3) := by decide +kernel
theorem d103_57 : decode (xcode 103) 57 = .ok (.invokevirtual 180, 3) := by decide +kernel
theorem d103_60 : decode (xcode 103) 60 = .ok (.aload_n 0, 1) := by decide +kernel
theorem d103_61 : decode (xcode 103) 61 = .ok (.getfield 55, 3) := by decide +kernel
theorem d103_64 : decode (xcode 103) 64 = .ok (.getfield 121, 3) := by decide +kernel
theorem d103_67 : decode (xcode 103) 67 = .ok (.iload_n 1, 1) := by decide +kernel
theorem d103_68 : decode (xcode 103) 68 = .ok (.invokevirtual 206, 3) := by decide +kernel
theorem d103_71 : decode (xcode 103) 71 = .ok (.aload_n 0, 1) := by decide +kernel
theorem d103_72 : decode (xcode 103) 72 = .ok (.getfield 55, 3) := by decide +kernel
theorem d103_75 : decode (xcode 103) 75 = .ok (.getfield 121, 3) := by decide +kernel
theorem d103_78 : decode (xcode 103) 78 = .ok (.getfield 203, 3) := by decide +kernel
theorem d103_81 : decode (xcode 103) 81 = .ok (.ireturn, 1) := by decide +kernel
noncomputable def f_B_await_e (v1 : Int32) (h : xH) : Option (Int32 × xH) :=
  if (h.1 8 0 0) = (0 : Int32) then (
  some (((-1 : Int32), h))) else (
  if v1 < (1 : Int32) then (
  some (((-1 : Int32), h))) else (
  if v1 ≤ (60 : Int32) then (
  if ((h.1 6 0 0) + v1) ≤ (9999 : Int32) then (
  (f_Past_keep 0 h).bind fun h7 =>
  (f_State_pass 0 v1 h7).bind fun h10 =>
  some ((h10.1 6 0 0, h10))) else (
  some (((-1 : Int32), h)))) else (
  some (((-1 : Int32), h)))))
set_option maxHeartbeats 4000000 in
set_option maxRecDepth 100000 in
theorem f_B_await_e_ok {g : xG} {l : Launch} {d : Nat} {v1 : Int32} {h : xH} {o : (Int32 × xH)} {R : Option xV} {H' : xH} (hD : 3 ≤ d) (hf : f_B_await_e v1 h = some o) (K0 : ∀ (a : Int32) (h1 : xH), o = (a, h1) → R = some (xi a) ∧ H' = h1) : xEv g l d 103 0 [(0, xr 11 (some 0)), (1, xi v1)] [] h R H' := by
  unfold f_B_await_e at hf
  refine xs_aload_n d103_0 rfl ?_
  refine xe_getc (j := 0) d103_1 ky103 fl153 fk11_6 rfl ?_
  refine xe_getc (j := 0) d103_4 ky103 fl96 fk4_0 rfl ?_
  refine xe_geti d103_7 ky103 fl19 fk8_0 ?_
  rcases lk_if hf with ⟨hc1, hf⟩ | ⟨hc1, hf⟩
  · refine xs_if_eq (tgt := 24) d103_10 (by decide) (fun _ => ?_) (fun hn => absurd hc1 hn)
    refine xs_iconst (v := -1) d103_24 (by decide) ?_
    obtain ⟨eR, eH⟩ := K0 _ _ (Option.some.inj hf).symm
    subst eR; subst eH
    exact xs_iret d103_25 rt103
  · refine xs_if_eq (tgt := 24) d103_10 (by decide) (fun hp => absurd hp hc1) (fun _ => ?_)
    refine xs_iload_n d103_13 rfl ?_
    refine xs_iconst (v := 1) d103_14 (by decide) ?_
    rcases lk_if hf with ⟨hc2, hf⟩ | ⟨hc2, hf⟩
    · refine xs_icmp_lt (tgt := 24) d103_15 (by decide) (fun _ => ?_) (fun hn => absurd hc2 hn)
      refine xs_iconst (v := -1) d103_24 (by decide) ?_
      obtain ⟨eR, eH⟩ := K0 _ _ (Option.some.inj hf).symm
      subst eR; subst eH
      exact xs_iret d103_25 rt103
    · refine xs_icmp_lt (tgt := 24) d103_15 (by decide) (fun hp => absurd hp hc2) (fun _ => ?_)
      refine xs_iload_n d103_18 rfl ?_
      refine xs_bipush (v := 60) d103_19 (by decide) ?_
      rcases lk_if hf with ⟨hc3, hf⟩ | ⟨hc3, hf⟩
      · refine xs_icmp_le (tgt := 26) d103_21 (by decide) (fun _ => ?_) (fun hn => absurd hc3 hn)
        refine xs_aload_n d103_26 rfl ?_
        refine xe_getc (j := 0) d103_27 ky103 fl153 fk11_6 rfl ?_
        refine xe_getc (j := 0) d103_30 ky103 fl98 fk4_1 rfl ?_
        refine xe_geti d103_33 ky103 fl70 fk6_0 ?_
        refine xs_iload_n d103_36 rfl ?_
        refine xs_iadd d103_37 ?_
        refine xs_sipush (v := 9999) d103_38 (by decide) ?_
        rcases lk_if hf with ⟨hc4, hf⟩ | ⟨hc4, hf⟩
        · refine xs_icmp_le (tgt := 46) d103_41 (by decide) (fun _ => ?_) (fun hn => absurd hc4 hn)
          refine xs_aload_n d103_46 rfl ?_
          refine xe_getc (j := 0) d103_47 ky103 fl156 fk11_9 rfl ?_
          refine xs_aload_n d103_50 rfl ?_
          refine xe_getc (j := 0) d103_51 ky103 fl153 fk11_6 rfl ?_
          refine xe_getc (j := 0) d103_54 ky103 fl98 fk4_1 rfl ?_
          obtain ⟨h7, hc6, hf⟩ := lk_b hf
          refine xe_callv0 (as := [xr 6 (some 0)]) (st := []) (h2 := h7) (d2 := d - 1) d103_57 ky103 ml64 st6 (by decide) cn6 rfl na6 (Nat.le_of_ble_eq_true rfl) (by omega) (f_Past_keep_ok (by omega) hc6) ?_
          refine xs_aload_n d103_60 rfl ?_
          refine xe_getc (j := 0) d103_61 ky103 fl153 fk11_6 rfl ?_
          refine xe_getc (j := 0) d103_64 ky103 fl98 fk4_1 rfl ?_
          refine xs_iload_n d103_67 rfl ?_
          obtain ⟨h10, hc9, hf⟩ := lk_b hf
          refine xe_callv0 (as := [xi v1]) (st := []) (h2 := h10) (d2 := d - 1) d103_68 ky103 ml96 st54 (by decide) cn54 rfl na54 (Nat.le_of_ble_eq_true rfl) (by omega) (f_State_pass_ok (by omega) hc9) ?_
          refine xs_aload_n d103_71 rfl ?_
          refine xe_getc (j := 0) d103_72 ky103 fl153 fk11_6 rfl ?_
          refine xe_getc (j := 0) d103_75 ky103 fl98 fk4_1 rfl ?_
          refine xe_geti d103_78 ky103 fl70 fk6_0 ?_
          obtain ⟨eR, eH⟩ := K0 _ _ (Option.some.inj hf).symm
          subst eR; subst eH
          exact xs_iret d103_81 rt103
        · refine xs_icmp_le (tgt := 46) d103_41 (by decide) (fun hp => absurd hp hc4) (fun _ => ?_)
          refine xs_iconst (v := -1) d103_44 (by decide) ?_
          obtain ⟨eR, eH⟩ := K0 _ _ (Option.some.inj hf).symm
          subst eR; subst eH
          exact xs_iret d103_45 rt103
      · refine xs_icmp_le (tgt := 26) d103_21 (by decide) (fun hp => absurd hp hc3) (fun _ => ?_)
        refine xs_iconst (v := -1) d103_24 (by decide) ?_
        obtain ⟨eR, eH⟩ := K0 _ _ (Option.some.inj hf).symm
        subst eR; subst eH
        exact xs_iret d103_25 rt103
noncomputable def f_B_await (v1 : Int32) (h : xH) : Option (Int32 × xH) := f_B_await_e v1 h
theorem f_B_await_ok {g : xG} {l : Launch} {d : Nat} {v1 : Int32} {h : xH} {r : Int32} {h1 : xH} (hD : 3 ≤ d) (hf : f_B_await v1 h = some (r, h1)) : xC g l d 103 [xr 11 (some 0), xi v1] h (some (xi r)) h1 :=
  xC_of2 (by decide) mx103 (Nat.le_of_ble_eq_true rfl) (f_B_await_e_ok hD hf (fun _ _ e => by cases e; exact ⟨rfl, rfl⟩))
theorem d104_0 : decode (xcode 104) 0 = .ok (.iload_n 1, 1) := by decide +kernel
theorem d104_1 : decode (xcode 104) 1 = .ok (.iload_n 2, 1) := by decide +kernel
theorem d104_2 : decode (xcode 104) 2 = .ok (.if_icmp .eq 31, 3) := by decide +kernel
theorem d104_5 : decode (xcode 104) 5 = .ok (.aload_n 0, 1) := by decide +kernel
theorem d104_6 : decode (xcode 104) 6 = .ok (.getfield 55, 3) := by decide +kernel
theorem d104_9 : decode (xcode 104) 9 = .ok (.getfield 121, 3) := by decide +kernel
theorem d104_12 : decode (xcode 104) 12 = .ok (.iload_n 1, 1) := by decide +kernel
theorem d104_13 : decode (xcode 104) 13 = .ok (.invokevirtual 209, 3) := by decide +kernel
theorem d104_16 : decode (xcode 104) 16 = .ok (.ifCond .eq 17, 3) := by decide +kernel
theorem d104_19 : decode (xcode 104) 19 = .ok (.aload_n 0, 1) := by decide +kernel
theorem d104_20 : decode (xcode 104) 20 = .ok (.getfield 55, 3) := by decide +kernel
theorem d104_23 : decode (xcode 104) 23 = .ok (.getfield 121, 3) := by decide +kernel
theorem d104_26 : decode (xcode 104) 26 = .ok (.iload_n 2, 1) := by decide +kernel
theorem d104_27 : decode (xcode 104) 27 = .ok (.invokevirtual 209, 3) := by decide +kernel
theorem d104_30 : decode (xcode 104) 30 = .ok (.ifCond .ne 5, 3) := by decide +kernel
theorem d104_33 : decode (xcode 104) 33 = .ok (.iconst (-1), 1) := by decide +kernel
theorem d104_34 : decode (xcode 104) 34 = .ok (.ireturn, 1) := by decide +kernel
theorem d104_35 : decode (xcode 104) 35 = .ok (.aload_n 0, 1) := by decide +kernel
theorem d104_36 : decode (xcode 104) 36 = .ok (.getfield 70, 3) := by decide +kernel
theorem d104_39 : decode (xcode 104) 39 = .ok (.aload_n 0, 1) := by decide +kernel
theorem d104_40 : decode (xcode 104) 40 = .ok (.getfield 55, 3) := by decide +kernel
theorem d104_43 : decode (xcode 104) 43 = .ok (.getfield 121, 3) := by decide +kernel
theorem d104_46 : decode (xcode 104) 46 = .ok (.invokevirtual 180, 3) := by decide +kernel
theorem d104_49 : decode (xcode 104) 49 = .ok (.aload_n 0, 1) := by decide +kernel
theorem d104_50 : decode (xcode 104) 50 = .ok (.getfield 55, 3) := by decide +kernel
theorem d104_53 : decode (xcode 104) 53 = .ok (.getfield 121, 3) := by decide +kernel
theorem d104_56 : decode (xcode 104) 56 = .ok (.getfield 164, 3) := by decide +kernel
theorem d104_59 : decode (xcode 104) 59 = .ok (.iload_n 1, 1) := by decide +kernel
theorem d104_60 : decode (xcode 104) 60 = .ok (.dup2, 1) := by decide +kernel
theorem d104_61 : decode (xcode 104) 61 = .ok (.iaload, 1) := by decide +kernel
theorem d104_62 : decode (xcode 104) 62 = .ok (.iconst 1, 1) := by decide +kernel
theorem d104_63 : decode (xcode 104) 63 = .ok (.iload_n 2, 1) := by decide +kernel
theorem d104_64 : decode (xcode 104) 64 = .ok (.ishl, 1) := by decide +kernel
theorem d104_65 : decode (xcode 104) 65 = .ok (.ixor, 1) := by decide +kernel
theorem d104_66 : decode (xcode 104) 66 = .ok (.iastore, 1) := by decide +kernel
theorem d104_67 : decode (xcode 104) 67 = .ok (.aload_n 0, 1) := by decide +kernel
theorem d104_68 : decode (xcode 104) 68 = .ok (.getfield 55, 3) := by decide +kernel
theorem d104_71 : decode (xcode 104) 71 = .ok (.getfield 121, 3) := by decide +kernel
theorem d104_74 : decode (xcode 104) 74 = .ok (.getfield 164, 3) := by decide +kernel
theorem d104_77 : decode (xcode 104) 77 = .ok (.iload_n 1, 1) := by decide +kernel
theorem d104_78 : decode (xcode 104) 78 = .ok (.iaload, 1) := by decide +kernel
theorem d104_79 : decode (xcode 104) 79 = .ok (.iload_n 2, 1) := by decide +kernel
theorem d104_80 : decode (xcode 104) 80 = .ok (.ishr, 1) := by decide +kernel
theorem d104_81 : decode (xcode 104) 81 = .ok (.iconst 1, 1) := by decide +kernel
theorem d104_82 : decode (xcode 104) 82 = .ok (.iand, 1) := by decide +kernel
theorem d104_83 : decode (xcode 104) 83 = .ok (.ireturn, 1) := by decide +kernel
noncomputable def f_B_lay_e (v1 : Int32) (v2 : Int32) (h : xH) : Option (Int32 × xH) :=
  if v1 = v2 then (
  some (((-1 : Int32), h))) else (
  (f_State_isIn 0 v1 h).bind fun r2 =>
  if r2 = (0 : Int32) then (
  some (((-1 : Int32), h))) else (
  (f_State_isIn 0 v2 h).bind fun r5 =>
  if r5 = (0 : Int32) then (
  some (((-1 : Int32), h))) else (
  (f_Past_keep 0 h).bind fun h10 =>
  if xib v1 8 then (
  if xib v1 8 then (
  xlet (xsA h10 30 0 (upd (h10.2.2.2.1 30 0) (v1).toNatClampNeg ((h10.2.2.2.1 30 0 (v1).toNatClampNeg) ^^^ ((1 : Int32) <<< (v2 &&& 31))))) fun h13 =>
  if xib v1 8 then (
  some ((((h13.2.2.2.1 30 0 (v1).toNatClampNeg) >>> (v2 &&& 31)) &&& (1 : Int32), h13))) else none) else none) else none)))
set_option maxHeartbeats 4000000 in
set_option maxRecDepth 100000 in
theorem f_B_lay_e_ok {g : xG} {l : Launch} {d : Nat} {v1 : Int32} {v2 : Int32} {h : xH} {o : (Int32 × xH)} {R : Option xV} {H' : xH} (hD : 3 ≤ d) (hf : f_B_lay_e v1 v2 h = some o) (K0 : ∀ (a : Int32) (h1 : xH), o = (a, h1) → R = some (xi a) ∧ H' = h1) : xEv g l d 104 0 [(0, xr 11 (some 0)), (1, xi v1), (2, xi v2)] [] h R H' := by
  unfold f_B_lay_e at hf
  refine xs_iload_n d104_0 rfl ?_
  refine xs_iload_n d104_1 rfl ?_
  rcases lk_if hf with ⟨hc1, hf⟩ | ⟨hc1, hf⟩
  · refine xs_icmp_eq (tgt := 33) d104_2 (by decide) (fun _ => ?_) (fun hn => absurd hc1 hn)
    refine xs_iconst (v := -1) d104_33 (by decide) ?_
    obtain ⟨eR, eH⟩ := K0 _ _ (Option.some.inj hf).symm
    subst eR; subst eH
    exact xs_iret d104_34 rt104
  · refine xs_icmp_eq (tgt := 33) d104_2 (by decide) (fun hp => absurd hp hc1) (fun _ => ?_)
    refine xs_aload_n d104_5 rfl ?_
    refine xe_getc (j := 0) d104_6 ky104 fl153 fk11_6 rfl ?_
    refine xe_getc (j := 0) d104_9 ky104 fl98 fk4_1 rfl ?_
    refine xs_iload_n d104_12 rfl ?_
    obtain ⟨r2, hc3, hf⟩ := lk_b hf
    refine xe_callv1 (as := [xi v1]) (st := []) (h2 := h) (d2 := d - 1) d104_13 ky104 ml98 st47 (by decide) cn47 rfl na47 (Nat.le_of_ble_eq_true rfl) (by omega) (f_State_isIn_ok (by omega) hc3) ?_
    rcases lk_if hf with ⟨hc4, hf⟩ | ⟨hc4, hf⟩
    · refine xs_if_eq (tgt := 33) d104_16 (by decide) (fun _ => ?_) (fun hn => absurd hc4 hn)
      refine xs_iconst (v := -1) d104_33 (by decide) ?_
      obtain ⟨eR, eH⟩ := K0 _ _ (Option.some.inj hf).symm
      subst eR; subst eH
      exact xs_iret d104_34 rt104
    · refine xs_if_eq (tgt := 33) d104_16 (by decide) (fun hp => absurd hp hc4) (fun _ => ?_)
      refine xs_aload_n d104_19 rfl ?_
      refine xe_getc (j := 0) d104_20 ky104 fl153 fk11_6 rfl ?_
      refine xe_getc (j := 0) d104_23 ky104 fl98 fk4_1 rfl ?_
      refine xs_iload_n d104_26 rfl ?_
      obtain ⟨r5, hc6, hf⟩ := lk_b hf
      refine xe_callv1 (as := [xi v2]) (st := []) (h2 := h) (d2 := d - 1) d104_27 ky104 ml98 st47 (by decide) cn47 rfl na47 (Nat.le_of_ble_eq_true rfl) (by omega) (f_State_isIn_ok (by omega) hc6) ?_
      rcases lk_if hf with ⟨hc7, hf⟩ | ⟨hc7, hf⟩
      · refine xs_if_ne (tgt := 35) d104_30 (by decide) (fun _ => ?_) (fun hn => absurd hc7 hn)
        refine xs_iconst (v := -1) d104_33 (by decide) ?_
        obtain ⟨eR, eH⟩ := K0 _ _ (Option.some.inj hf).symm
        subst eR; subst eH
        exact xs_iret d104_34 rt104
      · refine xs_if_ne (tgt := 35) d104_30 (by decide) (fun hp => absurd hp hc7) (fun _ => ?_)
        refine xs_aload_n d104_35 rfl ?_
        refine xe_getc (j := 0) d104_36 ky104 fl156 fk11_9 rfl ?_
        refine xs_aload_n d104_39 rfl ?_
        refine xe_getc (j := 0) d104_40 ky104 fl153 fk11_6 rfl ?_
        refine xe_getc (j := 0) d104_43 ky104 fl98 fk4_1 rfl ?_
        obtain ⟨h10, hc9, hf⟩ := lk_b hf
        refine xe_callv0 (as := [xr 6 (some 0)]) (st := []) (h2 := h10) (d2 := d - 1) d104_46 ky104 ml64 st6 (by decide) cn6 rfl na6 (Nat.le_of_ble_eq_true rfl) (by omega) (f_Past_keep_ok (by omega) hc9) ?_
        refine xs_aload_n d104_49 rfl ?_
        refine xe_getc (j := 0) d104_50 ky104 fl153 fk11_6 rfl ?_
        refine xe_getc (j := 0) d104_53 ky104 fl98 fk4_1 rfl ?_
        refine xe_getc (j := 0) d104_56 ky104 fl86 fk6_5 rfl ?_
        refine xs_iload_n d104_59 rfl ?_
        refine xs_dup2 d104_60 rfl rfl ?_
        obtain ⟨hin11, hf⟩ := lk_g hf
        refine xe_iald d104_61 (by decide) ak30 hin11 ?_
        refine xs_iconst (v := 1) d104_62 (by decide) ?_
        refine xs_iload_n d104_63 rfl ?_
        refine xs_ishl d104_64 ?_
        refine xs_ixor d104_65 ?_
        obtain ⟨hin12, hf⟩ := lk_g hf
        obtain ⟨h13, eh13, hf⟩ := lk_let hf
        refine xe_iast d104_66 (by decide) ak30 hin12  eh13 ?_
        refine xs_aload_n d104_67 rfl ?_
        refine xe_getc (j := 0) d104_68 ky104 fl153 fk11_6 rfl ?_
        refine xe_getc (j := 0) d104_71 ky104 fl98 fk4_1 rfl ?_
        refine xe_getc (j := 0) d104_74 ky104 fl86 fk6_5 rfl ?_
        refine xs_iload_n d104_77 rfl ?_
        obtain ⟨hin14, hf⟩ := lk_g hf
        refine xe_iald d104_78 (by decide) ak30 hin14 ?_
        refine xs_iload_n d104_79 rfl ?_
        refine xs_ishr d104_80 ?_
        refine xs_iconst (v := 1) d104_81 (by decide) ?_
        refine xs_iand d104_82 ?_
        obtain ⟨eR, eH⟩ := K0 _ _ (Option.some.inj hf).symm
        subst eR; subst eH
        exact xs_iret d104_83 rt104
noncomputable def f_B_lay (v1 : Int32) (v2 : Int32) (h : xH) : Option (Int32 × xH) := f_B_lay_e v1 v2 h
theorem f_B_lay_ok {g : xG} {l : Launch} {d : Nat} {v1 : Int32} {v2 : Int32} {h : xH} {r : Int32} {h1 : xH} (hD : 3 ≤ d) (hf : f_B_lay v1 v2 h = some (r, h1)) : xC g l d 104 [xr 11 (some 0), xi v1, xi v2] h (some (xi r)) h1 :=
  xC_of2 (by decide) mx104 (Nat.le_of_ble_eq_true rfl) (f_B_lay_e_ok hD hf (fun _ _ e => by cases e; exact ⟨rfl, rfl⟩))
theorem d105_0 : decode (xcode 105) 0 = .ok (.iload_n 2, 1) := by decide +kernel
theorem d105_1 : decode (xcode 105) 1 = .ok (.iconst 1, 1) := by decide +kernel
theorem d105_2 : decode (xcode 105) 2 = .ok (.if_icmp .lt 23, 3) := by decide +kernel
theorem d105_5 : decode (xcode 105) 5 = .ok (.iload_n 2, 1) := by decide +kernel
theorem d105_6 : decode (xcode 105) 6 = .ok (.bipush 20, 2) := by decide +kernel
theorem d105_8 : decode (xcode 105) 8 = .ok (.if_icmp .gt 17, 3) := by decide +kernel
theorem d105_11 : decode (xcode 105) 11 = .ok (.aload_n 0, 1) := by decide +kernel
theorem d105_12 : decode (xcode 105) 12 = .ok (.getfield 55, 3) := by decide +kernel
theorem d105_15 : decode (xcode 105) 15 = .ok (.getfield 121, 3) := by decide +kernel
theorem d105_18 : decode (xcode 105) 18 = .ok (.iload_n 1, 1) := by decide +kernel
theorem d105_19 : decode (xcode 105) 19 = .ok (.invokevirtual 209, 3) := by decide +kernel
theorem d105_22 : decode (xcode 105) 22 = .ok (.ifCond .ne 5, 3) := by decide +kernel
theorem d105_25 : decode (xcode 105) 25 = .ok (.iconst (-1), 1) := by decide +kernel
theorem d105_26 : decode (xcode 105) 26 = .ok (.ireturn, 1) := by decide +kernel
theorem d105_27 : decode (xcode 105) 27 = .ok (.aload_n 0, 1) := by decide +kernel
theorem d105_28 : decode (xcode 105) 28 = .ok (.getfield 55, 3) := by decide +kernel
theorem d105_31 : decode (xcode 105) 31 = .ok (.getfield 121, 3) := by decide +kernel
theorem d105_34 : decode (xcode 105) 34 = .ok (.getfield 148, 3) := by decide +kernel
theorem d105_37 : decode (xcode 105) 37 = .ok (.iload_n 1, 1) := by decide +kernel
theorem d105_38 : decode (xcode 105) 38 = .ok (.iaload, 1) := by decide +kernel
theorem d105_39 : decode (xcode 105) 39 = .ok (.istore_n 3, 1) := by decide +kernel
theorem d105_40 : decode (xcode 105) 40 = .ok (.iload_n 3, 1) := by decide +kernel
theorem d105_41 : decode (xcode 105) 41 = .ok (.iload_n 2, 1) := by decide +kernel
theorem d105_42 : decode (xcode 105) 42 = .ok (.if_icmp .ne 5, 3) := by decide +kernel
theorem d105_45 : decode (xcode 105) 45 = .ok (.iconst (-1), 1) := by decide +kernel
theorem d105_46 : decode (xcode 105) 46 = .ok (.ireturn, 1) := by decide +kernel
theorem d105_47 : decode (xcode 105) 47 = .ok (.aload_n 0, 1) := by decide +kernel
theorem d105_48 : decode (xcode 105) 48 = .ok (.getfield 70, 3) := by decide +kernel
theorem d105_51 : decode (xcode 105) 51 = .ok (.aload_n 0, 1) := by decide +kernel
theorem d105_52 : decode (xcode 105) 52 = .ok (.getfield 55, 3) := by decide +kernel
theorem d105_55 : decode (xcode 105) 55 = .ok (.getfield 121, 3) := by decide +kernel
theorem d105_58 : decode (xcode 105) 58 = .ok (.invokevirtual 180, 3) := by decide +kernel
theorem d105_61 : decode (xcode 105) 61 = .ok (.aload_n 0, 1) := by decide +kernel
theorem d105_62 : decode (xcode 105) 62 = .ok (.getfield 55, 3) := by decide +kernel
theorem d105_65 : decode (xcode 105) 65 = .ok (.getfield 121, 3) := by decide +kernel
theorem d105_68 : decode (xcode 105) 68 = .ok (.getfield 148, 3) := by decide +kernel
theorem d105_71 : decode (xcode 105) 71 = .ok (.iload_n 1, 1) := by decide +kernel
theorem d105_72 : decode (xcode 105) 72 = .ok (.iload_n 2, 1) := by decide +kernel
theorem d105_73 : decode (xcode 105) 73 = .ok (.iastore, 1) := by decide +kernel
theorem d105_74 : decode (xcode 105) 74 = .ok (.iload_n 3, 1) := by decide +kernel
theorem d105_75 : decode (xcode 105) 75 = .ok (.ireturn, 1) := by decide +kernel
noncomputable def f_B_lighten_e (v1 : Int32) (v2 : Int32) (h : xH) : Option (Int32 × xH) :=
  if v2 < (1 : Int32) then (
  some (((-1 : Int32), h))) else (
  if (20 : Int32) < v2 then (
  some (((-1 : Int32), h))) else (
  (f_State_isIn 0 v1 h).bind fun r3 =>
  if r3 = (0 : Int32) then (
  some (((-1 : Int32), h))) else (
  if xib v1 8 then (
  xlet (h.2.2.2.1 31 0 (v1).toNatClampNeg) fun v3_7 =>
  if v3_7 = v2 then (
  some (((-1 : Int32), h))) else (
  (f_Past_keep 0 h).bind fun h11 =>
  if xib v1 8 then (
  xlet (xsA h11 31 0 (upd (h11.2.2.2.1 31 0) (v1).toNatClampNeg v2)) fun h13 =>
  some ((v3_7, h13))) else none)) else none)))
set_option maxHeartbeats 4000000 in
set_option maxRecDepth 100000 in
theorem f_B_lighten_e_ok {g : xG} {l : Launch} {d : Nat} {v1 : Int32} {v2 : Int32} {h : xH} {o : (Int32 × xH)} {R : Option xV} {H' : xH} (hD : 3 ≤ d) (hf : f_B_lighten_e v1 v2 h = some o) (K0 : ∀ (a : Int32) (h1 : xH), o = (a, h1) → R = some (xi a) ∧ H' = h1) : xEv g l d 105 0 [(0, xr 11 (some 0)), (1, xi v1), (2, xi v2)] [] h R H' := by
  unfold f_B_lighten_e at hf
  refine xs_iload_n d105_0 rfl ?_
  refine xs_iconst (v := 1) d105_1 (by decide) ?_
  rcases lk_if hf with ⟨hc1, hf⟩ | ⟨hc1, hf⟩
  · refine xs_icmp_lt (tgt := 25) d105_2 (by decide) (fun _ => ?_) (fun hn => absurd hc1 hn)
    refine xs_iconst (v := -1) d105_25 (by decide) ?_
    obtain ⟨eR, eH⟩ := K0 _ _ (Option.some.inj hf).symm
    subst eR; subst eH
    exact xs_iret d105_26 rt105
  · refine xs_icmp_lt (tgt := 25) d105_2 (by decide) (fun hp => absurd hp hc1) (fun _ => ?_)
    refine xs_iload_n d105_5 rfl ?_
    refine xs_bipush (v := 20) d105_6 (by decide) ?_
    rcases lk_if hf with ⟨hc2, hf⟩ | ⟨hc2, hf⟩
    · refine xs_icmp_gt (tgt := 25) d105_8 (by decide) (fun _ => ?_) (fun hn => absurd hc2 hn)
      refine xs_iconst (v := -1) d105_25 (by decide) ?_
      obtain ⟨eR, eH⟩ := K0 _ _ (Option.some.inj hf).symm
      subst eR; subst eH
      exact xs_iret d105_26 rt105
    · refine xs_icmp_gt (tgt := 25) d105_8 (by decide) (fun hp => absurd hp hc2) (fun _ => ?_)
      refine xs_aload_n d105_11 rfl ?_
      refine xe_getc (j := 0) d105_12 ky105 fl153 fk11_6 rfl ?_
      refine xe_getc (j := 0) d105_15 ky105 fl98 fk4_1 rfl ?_
      refine xs_iload_n d105_18 rfl ?_
      obtain ⟨r3, hc4, hf⟩ := lk_b hf
      refine xe_callv1 (as := [xi v1]) (st := []) (h2 := h) (d2 := d - 1) d105_19 ky105 ml98 st47 (by decide) cn47 rfl na47 (Nat.le_of_ble_eq_true rfl) (by omega) (f_State_isIn_ok (by omega) hc4) ?_
      rcases lk_if hf with ⟨hc5, hf⟩ | ⟨hc5, hf⟩
      · refine xs_if_ne (tgt := 27) d105_22 (by decide) (fun _ => ?_) (fun hn => absurd hc5 hn)
        refine xs_iconst (v := -1) d105_25 (by decide) ?_
        obtain ⟨eR, eH⟩ := K0 _ _ (Option.some.inj hf).symm
        subst eR; subst eH
        exact xs_iret d105_26 rt105
      · refine xs_if_ne (tgt := 27) d105_22 (by decide) (fun hp => absurd hp hc5) (fun _ => ?_)
        refine xs_aload_n d105_27 rfl ?_
        refine xe_getc (j := 0) d105_28 ky105 fl153 fk11_6 rfl ?_
        refine xe_getc (j := 0) d105_31 ky105 fl98 fk4_1 rfl ?_
        refine xe_getc (j := 0) d105_34 ky105 fl89 fk6_6 rfl ?_
        refine xs_iload_n d105_37 rfl ?_
        obtain ⟨hin6, hf⟩ := lk_g hf
        refine xe_iald d105_38 (by decide) ak31 hin6 ?_
        obtain ⟨v3_7, ev3_7, hf⟩ := lk_let hf
        refine xe_istore_n (v := v3_7) (ls2 := [(0, xr 11 (some 0)), (1, xi v1), (2, xi v2), (3, xi v3_7)]) d105_39 mx105 (by decide) ev3_7 rfl ?_
        refine xs_iload_n d105_40 rfl ?_
        refine xs_iload_n d105_41 rfl ?_
        rcases lk_if hf with ⟨hc8, hf⟩ | ⟨hc8, hf⟩
        · refine xs_icmp_ne (tgt := 47) d105_42 (by decide) (fun _ => ?_) (fun hn => absurd hc8 hn)
          refine xs_iconst (v := -1) d105_45 (by decide) ?_
          obtain ⟨eR, eH⟩ := K0 _ _ (Option.some.inj hf).symm
          subst eR; subst eH
          exact xs_iret d105_46 rt105
        · refine xs_icmp_ne (tgt := 47) d105_42 (by decide) (fun hp => absurd hp hc8) (fun _ => ?_)
          refine xs_aload_n d105_47 rfl ?_
          refine xe_getc (j := 0) d105_48 ky105 fl156 fk11_9 rfl ?_
          refine xs_aload_n d105_51 rfl ?_
          refine xe_getc (j := 0) d105_52 ky105 fl153 fk11_6 rfl ?_
          refine xe_getc (j := 0) d105_55 ky105 fl98 fk4_1 rfl ?_
          obtain ⟨h11, hc10, hf⟩ := lk_b hf
          refine xe_callv0 (as := [xr 6 (some 0)]) (st := []) (h2 := h11) (d2 := d - 1) d105_58 ky105 ml64 st6 (by decide) cn6 rfl na6 (Nat.le_of_ble_eq_true rfl) (by omega) (f_Past_keep_ok (by omega) hc10) ?_
          refine xs_aload_n d105_61 rfl ?_
          refine xe_getc (j := 0) d105_62 ky105 fl153 fk11_6 rfl ?_
          refine xe_getc (j := 0) d105_65 ky105 fl98 fk4_1 rfl ?_
          refine xe_getc (j := 0) d105_68 ky105 fl89 fk6_6 rfl ?_
          refine xs_iload_n d105_71 rfl ?_
          refine xs_iload_n d105_72 rfl ?_
          obtain ⟨hin12, hf⟩ := lk_g hf
          obtain ⟨h13, eh13, hf⟩ := lk_let hf
          refine xe_iast d105_73 (by decide) ak31 hin12  eh13 ?_
          refine xs_iload_n d105_74 rfl ?_
          obtain ⟨eR, eH⟩ := K0 _ _ (Option.some.inj hf).symm
          subst eR; subst eH
          exact xs_iret d105_75 rt105
noncomputable def f_B_lighten (v1 : Int32) (v2 : Int32) (h : xH) : Option (Int32 × xH) := f_B_lighten_e v1 v2 h
theorem f_B_lighten_ok {g : xG} {l : Launch} {d : Nat} {v1 : Int32} {v2 : Int32} {h : xH} {r : Int32} {h1 : xH} (hD : 3 ≤ d) (hf : f_B_lighten v1 v2 h = some (r, h1)) : xC g l d 105 [xr 11 (some 0), xi v1, xi v2] h (some (xi r)) h1 :=
  xC_of2 (by decide) mx105 (Nat.le_of_ble_eq_true rfl) (f_B_lighten_e_ok hD hf (fun _ _ e => by cases e; exact ⟨rfl, rfl⟩))
theorem d106_0 : decode (xcode 106) 0 = .ok (.aload_n 0, 1) := by decide +kernel
theorem d106_1 : decode (xcode 106) 1 = .ok (.getfield 70, 3) := by decide +kernel
theorem d106_4 : decode (xcode 106) 4 = .ok (.getfield 212, 3) := by decide +kernel
theorem d106_7 : decode (xcode 106) 7 = .ok (.ifCond .ne 5, 3) := by decide +kernel
theorem d106_10 : decode (xcode 106) 10 = .ok (.iconst (-1), 1) := by decide +kernel
theorem d106_11 : decode (xcode 106) 11 = .ok (.ireturn, 1) := by decide +kernel
theorem d106_12 : decode (xcode 106) 12 = .ok (.aload_n 0, 1) := by decide +kernel
theorem d106_13 : decode (xcode 106) 13 = .ok (.getfield 70, 3) := by decide +kernel
theorem d106_16 : decode (xcode 106) 16 = .ok (.aload_n 0, 1) := by decide +kernel
theorem d106_17 : decode (xcode 106) 17 = .ok (.getfield 55, 3) := by decide +kernel
theorem d106_20 : decode (xcode 106) 20 = .ok (.getfield 121, 3) := by decide +kernel
theorem d106_23 : decode (xcode 106) 23 = .ok (.invokevirtual 215, 3) := by decide +kernel
theorem d106_26 : decode (xcode 106) 26 = .ok (.aload_n 0, 1) := by decide +kernel
theorem d106_27 : decode (xcode 106) 27 = .ok (.getfield 70, 3) := by decide +kernel
theorem d106_30 : decode (xcode 106) 30 = .ok (.getfield 212, 3) := by decide +kernel
theorem d106_33 : decode (xcode 106) 33 = .ok (.ireturn, 1) := by decide +kernel
noncomputable def f_B_undo_e (h : xH) : Option (Int32 × xH) :=
  if (h.1 1 2 0) = (0 : Int32) then (
  some (((-1 : Int32), h))) else (
  (f_Past_bringBack 0 h).bind fun h4 =>
  some ((h4.1 1 2 0, h4)))
set_option maxHeartbeats 4000000 in
set_option maxRecDepth 100000 in
theorem f_B_undo_e_ok {g : xG} {l : Launch} {d : Nat} {h : xH} {o : (Int32 × xH)} {R : Option xV} {H' : xH} (hD : 3 ≤ d) (hf : f_B_undo_e h = some o) (K0 : ∀ (a : Int32) (h1 : xH), o = (a, h1) → R = some (xi a) ∧ H' = h1) : xEv g l d 106 0 [(0, xr 11 (some 0))] [] h R H' := by
  unfold f_B_undo_e at hf
  refine xs_aload_n d106_0 rfl ?_
  refine xe_getc (j := 0) d106_1 ky106 fl156 fk11_9 rfl ?_
  refine xe_geti d106_4 ky106 fl110 fk1_2 ?_
  rcases lk_if hf with ⟨hc1, hf⟩ | ⟨hc1, hf⟩
  · refine xs_if_ne (tgt := 12) d106_7 (by decide) (fun _ => ?_) (fun hn => absurd hc1 hn)
    refine xs_iconst (v := -1) d106_10 (by decide) ?_
    obtain ⟨eR, eH⟩ := K0 _ _ (Option.some.inj hf).symm
    subst eR; subst eH
    exact xs_iret d106_11 rt106
  · refine xs_if_ne (tgt := 12) d106_7 (by decide) (fun hp => absurd hp hc1) (fun _ => ?_)
    refine xs_aload_n d106_12 rfl ?_
    refine xe_getc (j := 0) d106_13 ky106 fl156 fk11_9 rfl ?_
    refine xs_aload_n d106_16 rfl ?_
    refine xe_getc (j := 0) d106_17 ky106 fl153 fk11_6 rfl ?_
    refine xe_getc (j := 0) d106_20 ky106 fl98 fk4_1 rfl ?_
    obtain ⟨h4, hc3, hf⟩ := lk_b hf
    refine xe_callv0 (as := [xr 6 (some 0)]) (st := []) (h2 := h4) (d2 := d - 1) d106_23 ky106 ml101 st7 (by decide) cn7 rfl na7 (Nat.le_of_ble_eq_true rfl) (by omega) (f_Past_bringBack_ok (by omega) hc3) ?_
    refine xs_aload_n d106_26 rfl ?_
    refine xe_getc (j := 0) d106_27 ky106 fl156 fk11_9 rfl ?_
    refine xe_geti d106_30 ky106 fl110 fk1_2 ?_
    obtain ⟨eR, eH⟩ := K0 _ _ (Option.some.inj hf).symm
    subst eR; subst eH
    exact xs_iret d106_33 rt106
noncomputable def f_B_undo (h : xH) : Option (Int32 × xH) := f_B_undo_e h
theorem f_B_undo_ok {g : xG} {l : Launch} {d : Nat} {h : xH} {r : Int32} {h1 : xH} (hD : 3 ≤ d) (hf : f_B_undo h = some (r, h1)) : xC g l d 106 [xr 11 (some 0)] h (some (xi r)) h1 :=
  xC_of2 (by decide) mx106 (Nat.le_of_ble_eq_true rfl) (f_B_undo_e_ok hD hf (fun _ _ e => by cases e; exact ⟨rfl, rfl⟩))
theorem d107_0 : decode (xcode 107) 0 = .ok (.aload_n 0, 1) := by decide +kernel
theorem d107_1 : decode (xcode 107) 1 = .ok (.getfield 55, 3) := by decide +kernel
theorem d107_4 : decode (xcode 107) 4 = .ok (.getfield 114, 3) := by decide +kernel
theorem d107_7 : decode (xcode 107) 7 = .ok (.getfield 173, 3) := by decide +kernel
theorem d107_10 : decode (xcode 107) 10 = .ok (.ifCond .eq 13, 3) := by decide +kernel
theorem d107_13 : decode (xcode 107) 13 = .ok (.iload_n 1, 1) := by decide +kernel
theorem d107_14 : decode (xcode 107) 14 = .ok (.ifCond .lt 9, 3) := by decide +kernel
theorem d107_17 : decode (xcode 107) 17 = .ok (.iload_n 1, 1) := by decide +kernel
theorem d107_18 : decode (xcode 107) 18 = .ok (.bipush 100, 2) := by decide +kernel
theorem d107_20 : decode (xcode 107) 20 = .ok (.if_icmp .le 5, 3) := by decide +kernel
theorem d107_23 : decode (xcode 107) 23 = .ok (.iconst (-1), 1) := by decide +kernel
theorem d107_24 : decode (xcode 107) 24 = .ok (.ireturn, 1) := by decide +kernel
theorem d107_25 : decode (xcode 107) 25 = .ok (.iload_n 2, 1) := by decide +kernel
theorem d107_26 : decode (xcode 107) 26 = .ok (.ifCond .lt 8, 3) := by decide +kernel
theorem d107_29 : decode (xcode 107) 29 = .ok (.iload_n 2, 1) := by decide +kernel
theorem d107_30 : decode (xcode 107) 30 = .ok (.iconst 3, 1) := by decide +kernel
theorem d107_31 : decode (xcode 107) 31 = .ok (.if_icmp .le 5, 3) := by decide +kernel
theorem d107_34 : decode (xcode 107) 34 = .ok (.iconst (-1), 1) := by decide +kernel
theorem d107_35 : decode (xcode 107) 35 = .ok (.ireturn, 1) := by decide +kernel
theorem d107_36 : decode (xcode 107) 36 = .ok (.aload_n 0, 1) := by decide +kernel
theorem d107_37 : decode (xcode 107) 37 = .ok (.invokevirtual 184, 3) := by decide +kernel
theorem d107_40 : decode (xcode 107) 40 = .ok (.iconst 0, 1) := by decide +kernel
theorem d107_41 : decode (xcode 107) 41 = .ok (.istore_n 3, 1) := by decide +kernel
theorem d107_42 : decode (xcode 107) 42 = .ok (.iload_n 3, 1) := by decide +kernel
theorem d107_43 : decode (xcode 107) 43 = .ok (.iload_n 1, 1) := by decide +kernel
theorem d107_44 : decode (xcode 107) 44 = .ok (.if_icmp .ge 17, 3) := by decide +kernel
theorem d107_47 : decode (xcode 107) 47 = .ok (.aload_n 0, 1) := by decide +kernel
theorem d107_48 : decode (xcode 107) 48 = .ok (.getfield 77, 3) := by decide +kernel
theorem d107_51 : decode (xcode 107) 51 = .ok (.invokevirtual 187, 3) := by decide +kernel
theorem d107_54 : decode (xcode 107) 54 = .ok (.pop, 1) := by decide +kernel
theorem d107_55 : decode (xcode 107) 55 = .ok (.iinc 3 1, 3) := by decide +kernel
theorem d107_58 : decode (xcode 107) 58 = .ok (.goto (-16), 3) := by decide +kernel
theorem d107_61 : decode (xcode 107) 61 = .ok (.iload_n 2, 1) := by decide +kernel
theorem d107_62 : decode (xcode 107) 62 = .ok (.tableswitch 79 0 2 #[26, 37, 58], 26) := by decide +kernel
theorem d107_88 : decode (xcode 107) 88 = .ok (.aload_n 0, 1) := by decide +kernel
theorem d107_89 : decode (xcode 107) 89 = .ok (.getfield 77, 3) := by decide +kernel
theorem d107_92 : decode (xcode 107) 92 = .ok (.getfield 190, 3) := by decide +kernel
theorem d107_95 : decode (xcode 107) 95 = .ok (.getfield 203, 3) := by decide +kernel
theorem d107_98 : decode (xcode 107) 98 = .ok (.ireturn, 1) := by decide +kernel
theorem d107_99 : decode (xcode 107) 99 = .ok (.aload_n 0, 1) := by decide +kernel
theorem d107_100 : decode (xcode 107) 100 = .ok (.getfield 55, 3) := by decide +kernel
theorem d107_103 : decode (xcode 107) 103 = .ok (.getfield 114, 3) := by decide +kernel
theorem d107_106 : decode (xcode 107) 106 = .ok (.aload_n 0, 1) := by decide +kernel
theorem d107_107 : decode (xcode 107) 107 = .ok (.getfield 77, 3) := by decide +kernel
theorem d107_110 : decode (xcode 107) 110 = .ok (.getfield 190, 3) := by decide +kernel
theorem d107_113 : decode (xcode 107) 113 = .ok (.getfield 218, 3) := by decide +kernel
theorem d107_116 : decode (xcode 107) 116 = .ok (.invokevirtual 221, 3) := by decide +kernel
theorem d107_119 : decode (xcode 107) 119 = .ok (.ireturn, 1) := by decide +kernel
theorem d107_120 : decode (xcode 107) 120 = .ok (.aload_n 0, 1) := by decide +kernel
theorem d107_121 : decode (xcode 107) 121 = .ok (.getfield 77, 3) := by decide +kernel
theorem d107_124 : decode (xcode 107) 124 = .ok (.getfield 190, 3) := by decide +kernel
theorem d107_127 : decode (xcode 107) 127 = .ok (.aload_n 0, 1) := by decide +kernel
theorem d107_128 : decode (xcode 107) 128 = .ok (.getfield 55, 3) := by decide +kernel
theorem d107_131 : decode (xcode 107) 131 = .ok (.getfield 114, 3) := by decide +kernel
theorem d107_134 : decode (xcode 107) 134 = .ok (.getfield 224, 3) := by decide +kernel
theorem d107_137 : decode (xcode 107) 137 = .ok (.invokevirtual 227, 3) := by decide +kernel
theorem d107_140 : decode (xcode 107) 140 = .ok (.ireturn, 1) := by decide +kernel
theorem d107_141 : decode (xcode 107) 141 = .ok (.aload_n 0, 1) := by decide +kernel
theorem d107_142 : decode (xcode 107) 142 = .ok (.getfield 77, 3) := by decide +kernel
theorem d107_145 : decode (xcode 107) 145 = .ok (.getfield 190, 3) := by decide +kernel
theorem d107_148 : decode (xcode 107) 148 = .ok (.getfield 230, 3) := by decide +kernel
theorem d107_151 : decode (xcode 107) 151 = .ok (.invokestatic 233, 3) := by decide +kernel
theorem d107_154 : decode (xcode 107) 154 = .ok (.ireturn, 1) := by decide +kernel
noncomputable def f_B_ahead_b61 (v2 : Int32) (h : xH) : Option (Int32 × xH) :=
  if v2 = (0 : Int32) then (
  some ((h.1 6 0 25, h))) else (
  if v2 = (1 : Int32) then (
  (f_Told_deepOf 0 (h.1 6 3 25) h).bind fun r12 =>
  some ((r12, h))) else (
  if v2 = (2 : Int32) then (
  (f_State_load 25 (h.1 8 2 0) h).bind fun r15 =>
  some ((r15, h))) else (
  (f_Integer_bitCount (h.1 6 2 25) h).bind fun r17 =>
  some ((r17, h)))))
set_option maxHeartbeats 4000000 in
set_option maxRecDepth 100000 in
theorem f_B_ahead_b61_ok {g : xG} {l : Launch} {d : Nat} {v2 : Int32} {h : xH} {o : (Int32 × xH)} {R : Option xV} {H' : xH} (hD : 5 ≤ d) (hf : f_B_ahead_b61 v2 h = some o) (K0 : ∀ (a : Int32) (h1 : xH), o = (a, h1) → R = some (xi a) ∧ H' = h1) : xEv g l d 107 61 [(0, xr 11 (some 0)), (2, xi v2)] [] h R H' := by
  unfold f_B_ahead_b61 at hf
  refine xs_iload_n d107_61 rfl ?_
  rcases lk_if hf with ⟨hc10, hf⟩ | ⟨hc10, hf⟩
  · refine xs_tableIn (tgt := 88) d107_62 (by rw [hc10]; decide) (by rw [hc10]; decide) (by rw [hc10]; first | done | rfl) (by decide) ?_
    refine xs_aload_n d107_88 rfl ?_
    refine xe_getc (j := 0) d107_89 ky107 fl157 fk11_10 rfl ?_
    refine xe_getc (j := 25) d107_92 ky107 fl112 fk10_0 rfl ?_
    refine xe_geti d107_95 ky107 fl70 fk6_0 ?_
    obtain ⟨eR, eH⟩ := K0 _ _ (Option.some.inj hf).symm
    subst eR; subst eH
    exact xs_iret d107_98 rt107
  · skip
    rcases lk_if hf with ⟨hc11, hf⟩ | ⟨hc11, hf⟩
    · refine xs_tableIn (tgt := 99) d107_62 (by rw [hc11]; decide) (by rw [hc11]; decide) (by rw [hc11]; first | done | rfl) (by decide) ?_
      refine xs_aload_n d107_99 rfl ?_
      refine xe_getc (j := 0) d107_100 ky107 fl153 fk11_6 rfl ?_
      refine xe_getc (j := 0) d107_103 ky107 fl96 fk4_0 rfl ?_
      refine xs_aload_n d107_106 rfl ?_
      refine xe_getc (j := 0) d107_107 ky107 fl157 fk11_10 rfl ?_
      refine xe_getc (j := 25) d107_110 ky107 fl112 fk10_0 rfl ?_
      refine xe_geti d107_113 ky107 fl81 fk6_3 ?_
      obtain ⟨r12, hc13, hf⟩ := lk_b hf
      refine xe_callv1 (as := [xi (h.1 6 3 25)]) (st := []) (h2 := h) (d2 := d - 1) d107_116 ky107 ml103 st77 (by decide) cn77 rfl na77 (Nat.le_of_ble_eq_true rfl) (by omega) (f_Told_deepOf_ok (by omega) hc13) ?_
      obtain ⟨eR, eH⟩ := K0 _ _ (Option.some.inj hf).symm
      subst eR; subst eH
      exact xs_iret d107_119 rt107
    · skip
      rcases lk_if hf with ⟨hc14, hf⟩ | ⟨hc14, hf⟩
      · refine xs_tableIn (tgt := 120) d107_62 (by rw [hc14]; decide) (by rw [hc14]; decide) (by rw [hc14]; first | done | rfl) (by decide) ?_
        refine xs_aload_n d107_120 rfl ?_
        refine xe_getc (j := 0) d107_121 ky107 fl157 fk11_10 rfl ?_
        refine xe_getc (j := 25) d107_124 ky107 fl112 fk10_0 rfl ?_
        refine xs_aload_n d107_127 rfl ?_
        refine xe_getc (j := 0) d107_128 ky107 fl153 fk11_6 rfl ?_
        refine xe_getc (j := 0) d107_131 ky107 fl96 fk4_0 rfl ?_
        refine xe_geti d107_134 ky107 fl28 fk8_2 ?_
        obtain ⟨r15, hc16, hf⟩ := lk_b hf
        refine xe_callv1 (as := [xi (h.1 8 2 0)]) (st := []) (h2 := h) (d2 := d - 1) d107_137 ky107 ml104 st52 (by decide) cn52 rfl na52 (Nat.le_of_ble_eq_true rfl) (by omega) (f_State_load_ok (by omega) hc16) ?_
        obtain ⟨eR, eH⟩ := K0 _ _ (Option.some.inj hf).symm
        subst eR; subst eH
        exact xs_iret d107_140 rt107
      · skip
        refine xs_tableOut (tgt := 141) d107_62 (xsw_out (fun k q1 q2 => ?_)) (by decide) ?_
        · rcases (show k = 0 ∨ k = 1 ∨ k = 2 by omega) with rfl | rfl | rfl
          · exact fun e => hc10 (e.trans (by decide))
          · exact fun e => hc11 (e.trans (by decide))
          · exact fun e => hc14 (e.trans (by decide))
        · skip
          refine xs_aload_n d107_141 rfl ?_
          refine xe_getc (j := 0) d107_142 ky107 fl157 fk11_10 rfl ?_
          refine xe_getc (j := 25) d107_145 ky107 fl112 fk10_0 rfl ?_
          refine xe_geti d107_148 ky107 fl78 fk6_2 ?_
          obtain ⟨r17, hc18, hf⟩ := lk_b hf
          refine xe_calls1 (as := [xi (h.1 6 2 25)]) (st := []) (h2 := h) (d2 := d - 1) d107_151 ky107 ml105 st255 rfl na255 (Nat.le_of_ble_eq_true rfl) (by omega) (f_Integer_bitCount_ok (by omega) hc18) ?_
          obtain ⟨eR, eH⟩ := K0 _ _ (Option.some.inj hf).symm
          subst eR; subst eH
          exact xs_iret d107_154 rt107
noncomputable def f_B_ahead_s42 (v1 : Int32) (v2 : Int32) (v3 : Int32) (h : xH) : Option ((Int32 × xH) ⊕ (Int32 × xH)) :=
  if v1 ≤ v3 then (
  xup (f_B_ahead_b61 v2 h)) else (
  (f_Walk_goOn h).bind fun q21 =>
  xlet (v3 + (1 : Int32)) fun v3_22 =>
  some (Sum.inl (v3_22, q21.2)))
set_option maxHeartbeats 4000000 in
set_option maxRecDepth 100000 in
theorem f_B_ahead_s42_ok {g : xG} {l : Launch} {d : Nat} {v1 : Int32} {v2 : Int32} {v3 : Int32} {h : xH} {o : ((Int32 × xH) ⊕ (Int32 × xH))} {R : Option xV} {H' : xH} (hD : 5 ≤ d) (hf : f_B_ahead_s42 v1 v2 v3 h = some o) (K1 : ∀ (w3 : Int32) (h1 : xH), o = Sum.inl (w3, h1) → xEv g l d 107 42 [(0, xr 11 (some 0)), (1, xi v1), (2, xi v2), (3, xi w3)] [] h1 R H') (K0 : ∀ (a : Int32) (h1 : xH), o = Sum.inr ((a, h1)) → R = some (xi a) ∧ H' = h1) : xEv g l d 107 42 [(0, xr 11 (some 0)), (1, xi v1), (2, xi v2), (3, xi v3)] [] h R H' := by
  unfold f_B_ahead_s42 at hf
  refine xs_iload_n d107_42 rfl ?_
  refine xs_iload_n d107_43 rfl ?_
  rcases lk_if hf with ⟨hc9, hf⟩ | ⟨hc9, hf⟩
  · refine xs_icmp_ge (tgt := 61) d107_44 (by decide) (fun _ => ?_) (fun hn => absurd hc9 hn)
    refine xs_pick [0, 2] rfl ?_
    obtain ⟨x0, hf, ex0⟩ := lk_up hf
    exact f_B_ahead_b61_ok hD hf (fun u0 u1 e => K0 u0 u1 (ex0.trans (congrArg Sum.inr e)))
  · refine xs_icmp_ge (tgt := 61) d107_44 (by decide) (fun hp => absurd hp hc9) (fun _ => ?_)
    refine xs_aload_n d107_47 rfl ?_
    refine xe_getc (j := 0) d107_48 ky107 fl157 fk11_10 rfl ?_
    obtain ⟨q21, hc20, hf⟩ := lk_b hf
    refine xe_callv1 (as := []) (st := []) (h2 := q21.2) (d2 := d - 1) d107_51 ky107 ml71 st87 (by decide) cn87 rfl na87 (Nat.le_of_ble_eq_true rfl) (by omega) (f_Walk_goOn_ok (by omega) hc20) ?_
    refine xs_pop d107_54 rfl ?_
    obtain ⟨v3_22, ev3_22, hf⟩ := lk_let hf
    refine xe_iinc (v := v3_22) (b := 1) (ls2 := [(0, xr 11 (some 0)), (1, xi v1), (2, xi v2), (3, xi v3_22)]) d107_55 mx107 (by decide) rfl (by decide) ev3_22 rfl ?_
    refine xs_goto (tgt := 42) d107_58 (by decide) ?_
    exact K1 _ _ (Option.some.inj hf).symm
noncomputable def f_B_ahead_l42 (v1 : Int32) (v2 : Int32) (v3 : Int32) (h : xH) : Option (Int32 × xH) :=
  whl (fun s => f_B_ahead_s42 v1 v2 s.1 s.2) (v3, h)
theorem f_B_ahead_l42_ok {g : xG} {l : Launch} {d : Nat} {v1 : Int32} {v2 : Int32} {v3 : Int32} {h : xH} {o : (Int32 × xH)} {R : Option xV} {H' : xH} (hD : 5 ≤ d) (hf : f_B_ahead_l42 v1 v2 v3 h = some o) (K0 : ∀ (a : Int32) (h1 : xH), o = (a, h1) → R = some (xi a) ∧ H' = h1) : xEv g l d 107 42 [(0, xr 11 (some 0)), (1, xi v1), (2, xi v2), (3, xi v3)] [] h R H' := by
  obtain ⟨n, hn⟩ := whl_iff.mp hf
  clear hf
  induction n generalizing v3 h with
  | zero => cases hn
  | succ n ih =>
    obtain ⟨o2, hs, hn⟩ := lk_b (show (f_B_ahead_s42 v1 v2 v3 h).bind (fun o => Sum.elim (itn _ n) some o) = some o from hn)
    exact f_B_ahead_s42_ok hD hs (fun u0 u1 e => ih (by rw [e] at hn; exact hn)) (fun u0 u1 e => K0 u0 u1 (by rw [e] at hn; exact (Option.some.inj hn).symm))
noncomputable def f_B_ahead_e (v1 : Int32) (v2 : Int32) (h : xH) : Option (Int32 × xH) :=
  if (h.1 8 0 0) = (0 : Int32) then (
  some (((-1 : Int32), h))) else (
  if v1 < (0 : Int32) then (
  some (((-1 : Int32), h))) else (
  if v1 ≤ (100 : Int32) then (
  if v2 < (0 : Int32) then (
  some (((-1 : Int32), h))) else (
  if v2 ≤ (3 : Int32) then (
  (f_B_startNow h).bind fun h8 =>
  f_B_ahead_l42 v1 v2 (0 : Int32) h8) else (
  some (((-1 : Int32), h))))) else (
  some (((-1 : Int32), h)))))
set_option maxHeartbeats 4000000 in
set_option maxRecDepth 100000 in
theorem f_B_ahead_e_ok {g : xG} {l : Launch} {d : Nat} {v1 : Int32} {v2 : Int32} {h : xH} {o : (Int32 × xH)} {R : Option xV} {H' : xH} (hD : 5 ≤ d) (hf : f_B_ahead_e v1 v2 h = some o) (K0 : ∀ (a : Int32) (h1 : xH), o = (a, h1) → R = some (xi a) ∧ H' = h1) : xEv g l d 107 0 [(0, xr 11 (some 0)), (1, xi v1), (2, xi v2)] [] h R H' := by
  unfold f_B_ahead_e at hf
  refine xs_aload_n d107_0 rfl ?_
  refine xe_getc (j := 0) d107_1 ky107 fl153 fk11_6 rfl ?_
  refine xe_getc (j := 0) d107_4 ky107 fl96 fk4_0 rfl ?_
  refine xe_geti d107_7 ky107 fl19 fk8_0 ?_
  rcases lk_if hf with ⟨hc1, hf⟩ | ⟨hc1, hf⟩
  · refine xs_if_eq (tgt := 23) d107_10 (by decide) (fun _ => ?_) (fun hn => absurd hc1 hn)
    refine xs_iconst (v := -1) d107_23 (by decide) ?_
    obtain ⟨eR, eH⟩ := K0 _ _ (Option.some.inj hf).symm
    subst eR; subst eH
    exact xs_iret d107_24 rt107
  · refine xs_if_eq (tgt := 23) d107_10 (by decide) (fun hp => absurd hp hc1) (fun _ => ?_)
    refine xs_iload_n d107_13 rfl ?_
    rcases lk_if hf with ⟨hc2, hf⟩ | ⟨hc2, hf⟩
    · refine xs_if_lt (tgt := 23) d107_14 (by decide) (fun _ => ?_) (fun hn => absurd hc2 hn)
      refine xs_iconst (v := -1) d107_23 (by decide) ?_
      obtain ⟨eR, eH⟩ := K0 _ _ (Option.some.inj hf).symm
      subst eR; subst eH
      exact xs_iret d107_24 rt107
    · refine xs_if_lt (tgt := 23) d107_14 (by decide) (fun hp => absurd hp hc2) (fun _ => ?_)
      refine xs_iload_n d107_17 rfl ?_
      refine xs_bipush (v := 100) d107_18 (by decide) ?_
      rcases lk_if hf with ⟨hc3, hf⟩ | ⟨hc3, hf⟩
      · refine xs_icmp_le (tgt := 25) d107_20 (by decide) (fun _ => ?_) (fun hn => absurd hc3 hn)
        refine xs_iload_n d107_25 rfl ?_
        rcases lk_if hf with ⟨hc4, hf⟩ | ⟨hc4, hf⟩
        · refine xs_if_lt (tgt := 34) d107_26 (by decide) (fun _ => ?_) (fun hn => absurd hc4 hn)
          refine xs_iconst (v := -1) d107_34 (by decide) ?_
          obtain ⟨eR, eH⟩ := K0 _ _ (Option.some.inj hf).symm
          subst eR; subst eH
          exact xs_iret d107_35 rt107
        · refine xs_if_lt (tgt := 34) d107_26 (by decide) (fun hp => absurd hp hc4) (fun _ => ?_)
          refine xs_iload_n d107_29 rfl ?_
          refine xs_iconst (v := 3) d107_30 (by decide) ?_
          rcases lk_if hf with ⟨hc5, hf⟩ | ⟨hc5, hf⟩
          · refine xs_icmp_le (tgt := 36) d107_31 (by decide) (fun _ => ?_) (fun hn => absurd hc5 hn)
            refine xs_aload_n d107_36 rfl ?_
            obtain ⟨h8, hc7, hf⟩ := lk_b hf
            refine xe_callv0 (as := []) (st := []) (h2 := h8) (d2 := d - 1) d107_37 ky107 ml67 st131 (by decide) cn131 rfl na131 (Nat.le_of_ble_eq_true rfl) (by omega) (f_B_startNow_ok (by omega) hc7) ?_
            refine xs_iconst (v := 0) d107_40 (by decide) ?_
            refine xe_istore_n (v := (0 : Int32)) (ls2 := [(0, xr 11 (some 0)), (1, xi v1), (2, xi v2), (3, xi (0 : Int32))]) d107_41 mx107 (by decide) rfl rfl ?_
            exact f_B_ahead_l42_ok hD hf K0
          · refine xs_icmp_le (tgt := 36) d107_31 (by decide) (fun hp => absurd hp hc5) (fun _ => ?_)
            refine xs_iconst (v := -1) d107_34 (by decide) ?_
            obtain ⟨eR, eH⟩ := K0 _ _ (Option.some.inj hf).symm
            subst eR; subst eH
            exact xs_iret d107_35 rt107
      · refine xs_icmp_le (tgt := 25) d107_20 (by decide) (fun hp => absurd hp hc3) (fun _ => ?_)
        refine xs_iconst (v := -1) d107_23 (by decide) ?_
        obtain ⟨eR, eH⟩ := K0 _ _ (Option.some.inj hf).symm
        subst eR; subst eH
        exact xs_iret d107_24 rt107
noncomputable def f_B_ahead (v1 : Int32) (v2 : Int32) (h : xH) : Option (Int32 × xH) := f_B_ahead_e v1 v2 h
theorem f_B_ahead_ok {g : xG} {l : Launch} {d : Nat} {v1 : Int32} {v2 : Int32} {h : xH} {r : Int32} {h1 : xH} (hD : 5 ≤ d) (hf : f_B_ahead v1 v2 h = some (r, h1)) : xC g l d 107 [xr 11 (some 0), xi v1, xi v2] h (some (xi r)) h1 :=
  xC_of2 (by decide) mx107 (Nat.le_of_ble_eq_true rfl) (f_B_ahead_e_ok hD hf (fun _ _ e => by cases e; exact ⟨rfl, rfl⟩))
theorem d108_0 : decode (xcode 108) 0 = .ok (.iload_n 2, 1) := by decide +kernel
theorem d108_1 : decode (xcode 108) 1 = .ok (.ifCond .lt 22, 3) := by decide +kernel
theorem d108_4 : decode (xcode 108) 4 = .ok (.iload_n 2, 1) := by decide +kernel
theorem d108_5 : decode (xcode 108) 5 = .ok (.iconst 1, 1) := by decide +kernel
theorem d108_6 : decode (xcode 108) 6 = .ok (.if_icmp .gt 17, 3) := by decide +kernel
theorem d108_9 : decode (xcode 108) 9 = .ok (.aload_n 0, 1) := by decide +kernel
theorem d108_10 : decode (xcode 108) 10 = .ok (.getfield 55, 3) := by decide +kernel
theorem d108_13 : decode (xcode 108) 13 = .ok (.getfield 121, 3) := by decide +kernel
theorem d108_16 : decode (xcode 108) 16 = .ok (.iload_n 1, 1) := by decide +kernel
theorem d108_17 : decode (xcode 108) 17 = .ok (.invokevirtual 209, 3) := by decide +kernel
theorem d108_20 : decode (xcode 108) 20 = .ok (.ifCond .ne 5, 3) := by decide +kernel
theorem d108_23 : decode (xcode 108) 23 = .ok (.iconst (-1), 1) := by decide +kernel
theorem d108_24 : decode (xcode 108) 24 = .ok (.ireturn, 1) := by decide +kernel
theorem d108_25 : decode (xcode 108) 25 = .ok (.aload_n 0, 1) := by decide +kernel
theorem d108_26 : decode (xcode 108) 26 = .ok (.invokevirtual 184, 3) := by decide +kernel
theorem d108_29 : decode (xcode 108) 29 = .ok (.iconst 0, 1) := by decide +kernel
theorem d108_30 : decode (xcode 108) 30 = .ok (.istore_n 3, 1) := by decide +kernel
theorem d108_31 : decode (xcode 108) 31 = .ok (.iload_n 3, 1) := by decide +kernel
theorem d108_32 : decode (xcode 108) 32 = .ok (.bipush 100, 2) := by decide +kernel
theorem d108_34 : decode (xcode 108) 34 = .ok (.if_icmp .ge 52, 3) := by decide +kernel
theorem d108_37 : decode (xcode 108) 37 = .ok (.aload_n 0, 1) := by decide +kernel
theorem d108_38 : decode (xcode 108) 38 = .ok (.getfield 77, 3) := by decide +kernel
theorem d108_41 : decode (xcode 108) 41 = .ok (.getfield 190, 3) := by decide +kernel
theorem d108_44 : decode (xcode 108) 44 = .ok (.getfield 177, 3) := by decide +kernel
theorem d108_47 : decode (xcode 108) 47 = .ok (.istore 4, 2) := by decide +kernel
theorem d108_49 : decode (xcode 108) 49 = .ok (.aload_n 0, 1) := by decide +kernel
theorem d108_50 : decode (xcode 108) 50 = .ok (.getfield 77, 3) := by decide +kernel
theorem d108_53 : decode (xcode 108) 53 = .ok (.invokevirtual 187, 3) := by decide +kernel
theorem d108_56 : decode (xcode 108) 56 = .ok (.iload_n 1, 1) := by decide +kernel
theorem d108_57 : decode (xcode 108) 57 = .ok (.if_icmp .ne 23, 3) := by decide +kernel
theorem d108_60 : decode (xcode 108) 60 = .ok (.iload_n 2, 1) := by decide +kernel
theorem d108_61 : decode (xcode 108) 61 = .ok (.ifCond .ne 8, 3) := by decide +kernel
theorem d108_64 : decode (xcode 108) 64 = .ok (.iload 4, 2) := by decide +kernel
theorem d108_66 : decode (xcode 108) 66 = .ok (.goto 13, 3) := by decide +kernel
theorem d108_69 : decode (xcode 108) 69 = .ok (.aload_n 0, 1) := by decide +kernel
theorem d108_70 : decode (xcode 108) 70 = .ok (.getfield 77, 3) := by decide +kernel
theorem d108_73 : decode (xcode 108) 73 = .ok (.getfield 190, 3) := by decide +kernel
theorem d108_76 : decode (xcode 108) 76 = .ok (.getfield 203, 3) := by decide +kernel
theorem d108_79 : decode (xcode 108) 79 = .ok (.ireturn, 1) := by decide +kernel
theorem d108_80 : decode (xcode 108) 80 = .ok (.iinc 3 1, 3) := by decide +kernel
theorem d108_83 : decode (xcode 108) 83 = .ok (.goto (-52), 3) := by decide +kernel
theorem d108_86 : decode (xcode 108) 86 = .ok (.bipush (-2), 2) := by decide +kernel
theorem d108_88 : decode (xcode 108) 88 = .ok (.ireturn, 1) := by decide +kernel
noncomputable def f_B_when_b60 (v2 : Int32) (v4 : Int32) (h : xH) : Option (Int32 × xH) :=
  if v2 = (0 : Int32) then (
  some ((v4, h))) else (
  some ((h.1 6 0 25, h)))
set_option maxHeartbeats 4000000 in
set_option maxRecDepth 100000 in
theorem f_B_when_b60_ok {g : xG} {l : Launch} {d : Nat} {v2 : Int32} {v4 : Int32} {h : xH} {o : (Int32 × xH)} {R : Option xV} {H' : xH} (hD : 5 ≤ d) (hf : f_B_when_b60 v2 v4 h = some o) (K0 : ∀ (a : Int32) (h1 : xH), o = (a, h1) → R = some (xi a) ∧ H' = h1) : xEv g l d 108 60 [(0, xr 11 (some 0)), (2, xi v2), (4, xi v4)] [] h R H' := by
  unfold f_B_when_b60 at hf
  refine xs_iload_n d108_60 rfl ?_
  rcases lk_if hf with ⟨hc15, hf⟩ | ⟨hc15, hf⟩
  · refine xs_if_ne (tgt := 69) d108_61 (by decide) (fun _ => ?_) (fun hn => absurd hc15 hn)
    refine xs_iload d108_64 rfl ?_
    refine xs_goto (tgt := 79) d108_66 (by decide) ?_
    obtain ⟨eR, eH⟩ := K0 _ _ (Option.some.inj hf).symm
    subst eR; subst eH
    exact xs_iret d108_79 rt108
  · refine xs_if_ne (tgt := 69) d108_61 (by decide) (fun hp => absurd hp hc15) (fun _ => ?_)
    refine xs_aload_n d108_69 rfl ?_
    refine xe_getc (j := 0) d108_70 ky108 fl157 fk11_10 rfl ?_
    refine xe_getc (j := 25) d108_73 ky108 fl112 fk10_0 rfl ?_
    refine xe_geti d108_76 ky108 fl70 fk6_0 ?_
    obtain ⟨eR, eH⟩ := K0 _ _ (Option.some.inj hf).symm
    subst eR; subst eH
    exact xs_iret d108_79 rt108
noncomputable def f_B_when_s31 (v1 : Int32) (v2 : Int32) (v3 : Int32) (h : xH) : Option ((Int32 × xH) ⊕ (Int32 × xH)) :=
  if (100 : Int32) ≤ v3 then (
  some (Sum.inr (((-2 : Int32), h)))) else (
  xlet (h.1 6 1 25) fun v4_10 =>
  (f_Walk_goOn h).bind fun q13 =>
  if q13.1 = v1 then (
  xup (f_B_when_b60 v2 v4_10 q13.2)) else (
  xlet (v3 + (1 : Int32)) fun v3_16 =>
  some (Sum.inl (v3_16, q13.2))))
set_option maxHeartbeats 4000000 in
set_option maxRecDepth 100000 in
theorem f_B_when_s31_ok {g : xG} {l : Launch} {d : Nat} {v1 : Int32} {v2 : Int32} {v3 : Int32} {h : xH} {o : ((Int32 × xH) ⊕ (Int32 × xH))} {R : Option xV} {H' : xH} (hD : 5 ≤ d) (hf : f_B_when_s31 v1 v2 v3 h = some o) (K1 : ∀ (w3 : Int32) (h1 : xH), o = Sum.inl (w3, h1) → xEv g l d 108 31 [(0, xr 11 (some 0)), (1, xi v1), (2, xi v2), (3, xi w3)] [] h1 R H') (K0 : ∀ (a : Int32) (h1 : xH), o = Sum.inr ((a, h1)) → R = some (xi a) ∧ H' = h1) : xEv g l d 108 31 [(0, xr 11 (some 0)), (1, xi v1), (2, xi v2), (3, xi v3)] [] h R H' := by
  unfold f_B_when_s31 at hf
  refine xs_iload_n d108_31 rfl ?_
  refine xs_bipush (v := 100) d108_32 (by decide) ?_
  rcases lk_if hf with ⟨hc9, hf⟩ | ⟨hc9, hf⟩
  · refine xs_icmp_ge (tgt := 86) d108_34 (by decide) (fun _ => ?_) (fun hn => absurd hc9 hn)
    refine xs_bipush (v := -2) d108_86 (by decide) ?_
    obtain ⟨eR, eH⟩ := K0 _ _ (Option.some.inj hf).symm
    subst eR; subst eH
    exact xs_iret d108_88 rt108
  · refine xs_icmp_ge (tgt := 86) d108_34 (by decide) (fun hp => absurd hp hc9) (fun _ => ?_)
    refine xs_aload_n d108_37 rfl ?_
    refine xe_getc (j := 0) d108_38 ky108 fl157 fk11_10 rfl ?_
    refine xe_getc (j := 25) d108_41 ky108 fl112 fk10_0 rfl ?_
    refine xe_geti d108_44 ky108 fl73 fk6_1 ?_
    obtain ⟨v4_10, ev4_10, hf⟩ := lk_let hf
    refine xe_istore (v := v4_10) (ls2 := [(0, xr 11 (some 0)), (1, xi v1), (2, xi v2), (3, xi v3), (4, xi v4_10)]) d108_47 mx108 (by decide) ev4_10 rfl ?_
    refine xs_aload_n d108_49 rfl ?_
    refine xe_getc (j := 0) d108_50 ky108 fl157 fk11_10 rfl ?_
    obtain ⟨q13, hc12, hf⟩ := lk_b hf
    refine xe_callv1 (as := []) (st := []) (h2 := q13.2) (d2 := d - 1) d108_53 ky108 ml71 st87 (by decide) cn87 rfl na87 (Nat.le_of_ble_eq_true rfl) (by omega) (f_Walk_goOn_ok (by omega) hc12) ?_
    refine xs_iload_n d108_56 rfl ?_
    rcases lk_if hf with ⟨hc14, hf⟩ | ⟨hc14, hf⟩
    · refine xs_icmp_ne (tgt := 80) d108_57 (by decide) (fun _ => ?_) (fun hn => absurd hc14 hn)
      refine xs_pick [0, 2, 4] rfl ?_
      obtain ⟨x0, hf, ex0⟩ := lk_up hf
      exact f_B_when_b60_ok hD hf (fun u0 u1 e => K0 u0 u1 (ex0.trans (congrArg Sum.inr e)))
    · refine xs_icmp_ne (tgt := 80) d108_57 (by decide) (fun hp => absurd hp hc14) (fun _ => ?_)
      obtain ⟨v3_16, ev3_16, hf⟩ := lk_let hf
      refine xe_iinc (v := v3_16) (b := 1) (ls2 := [(0, xr 11 (some 0)), (1, xi v1), (2, xi v2), (3, xi v3_16), (4, xi v4_10)]) d108_80 mx108 (by decide) rfl (by decide) ev3_16 rfl ?_
      refine xs_goto (tgt := 31) d108_83 (by decide) ?_
      refine xs_pick [0, 1, 2, 3] rfl ?_
      exact K1 _ _ (Option.some.inj hf).symm
noncomputable def f_B_when_l31 (v1 : Int32) (v2 : Int32) (v3 : Int32) (h : xH) : Option (Int32 × xH) :=
  whl (fun s => f_B_when_s31 v1 v2 s.1 s.2) (v3, h)
theorem f_B_when_l31_ok {g : xG} {l : Launch} {d : Nat} {v1 : Int32} {v2 : Int32} {v3 : Int32} {h : xH} {o : (Int32 × xH)} {R : Option xV} {H' : xH} (hD : 5 ≤ d) (hf : f_B_when_l31 v1 v2 v3 h = some o) (K0 : ∀ (a : Int32) (h1 : xH), o = (a, h1) → R = some (xi a) ∧ H' = h1) : xEv g l d 108 31 [(0, xr 11 (some 0)), (1, xi v1), (2, xi v2), (3, xi v3)] [] h R H' := by
  obtain ⟨n, hn⟩ := whl_iff.mp hf
  clear hf
  induction n generalizing v3 h with
  | zero => cases hn
  | succ n ih =>
    obtain ⟨o2, hs, hn⟩ := lk_b (show (f_B_when_s31 v1 v2 v3 h).bind (fun o => Sum.elim (itn _ n) some o) = some o from hn)
    exact f_B_when_s31_ok hD hs (fun u0 u1 e => ih (by rw [e] at hn; exact hn)) (fun u0 u1 e => K0 u0 u1 (by rw [e] at hn; exact (Option.some.inj hn).symm))
noncomputable def f_B_when_e (v1 : Int32) (v2 : Int32) (h : xH) : Option (Int32 × xH) :=
  if v2 < (0 : Int32) then (
  some (((-1 : Int32), h))) else (
  if (1 : Int32) < v2 then (
  some (((-1 : Int32), h))) else (
  (f_State_isIn 0 v1 h).bind fun r3 =>
  if r3 = (0 : Int32) then (
  some (((-1 : Int32), h))) else (
  (f_B_startNow h).bind fun h8 =>
  f_B_when_l31 v1 v2 (0 : Int32) h8)))
set_option maxHeartbeats 4000000 in
set_option maxRecDepth 100000 in
theorem f_B_when_e_ok {g : xG} {l : Launch} {d : Nat} {v1 : Int32} {v2 : Int32} {h : xH} {o : (Int32 × xH)} {R : Option xV} {H' : xH} (hD : 5 ≤ d) (hf : f_B_when_e v1 v2 h = some o) (K0 : ∀ (a : Int32) (h1 : xH), o = (a, h1) → R = some (xi a) ∧ H' = h1) : xEv g l d 108 0 [(0, xr 11 (some 0)), (1, xi v1), (2, xi v2)] [] h R H' := by
  unfold f_B_when_e at hf
  refine xs_iload_n d108_0 rfl ?_
  rcases lk_if hf with ⟨hc1, hf⟩ | ⟨hc1, hf⟩
  · refine xs_if_lt (tgt := 23) d108_1 (by decide) (fun _ => ?_) (fun hn => absurd hc1 hn)
    refine xs_iconst (v := -1) d108_23 (by decide) ?_
    obtain ⟨eR, eH⟩ := K0 _ _ (Option.some.inj hf).symm
    subst eR; subst eH
    exact xs_iret d108_24 rt108
  · refine xs_if_lt (tgt := 23) d108_1 (by decide) (fun hp => absurd hp hc1) (fun _ => ?_)
    refine xs_iload_n d108_4 rfl ?_
    refine xs_iconst (v := 1) d108_5 (by decide) ?_
    rcases lk_if hf with ⟨hc2, hf⟩ | ⟨hc2, hf⟩
    · refine xs_icmp_gt (tgt := 23) d108_6 (by decide) (fun _ => ?_) (fun hn => absurd hc2 hn)
      refine xs_iconst (v := -1) d108_23 (by decide) ?_
      obtain ⟨eR, eH⟩ := K0 _ _ (Option.some.inj hf).symm
      subst eR; subst eH
      exact xs_iret d108_24 rt108
    · refine xs_icmp_gt (tgt := 23) d108_6 (by decide) (fun hp => absurd hp hc2) (fun _ => ?_)
      refine xs_aload_n d108_9 rfl ?_
      refine xe_getc (j := 0) d108_10 ky108 fl153 fk11_6 rfl ?_
      refine xe_getc (j := 0) d108_13 ky108 fl98 fk4_1 rfl ?_
      refine xs_iload_n d108_16 rfl ?_
      obtain ⟨r3, hc4, hf⟩ := lk_b hf
      refine xe_callv1 (as := [xi v1]) (st := []) (h2 := h) (d2 := d - 1) d108_17 ky108 ml98 st47 (by decide) cn47 rfl na47 (Nat.le_of_ble_eq_true rfl) (by omega) (f_State_isIn_ok (by omega) hc4) ?_
      rcases lk_if hf with ⟨hc5, hf⟩ | ⟨hc5, hf⟩
      · refine xs_if_ne (tgt := 25) d108_20 (by decide) (fun _ => ?_) (fun hn => absurd hc5 hn)
        refine xs_iconst (v := -1) d108_23 (by decide) ?_
        obtain ⟨eR, eH⟩ := K0 _ _ (Option.some.inj hf).symm
        subst eR; subst eH
        exact xs_iret d108_24 rt108
      · refine xs_if_ne (tgt := 25) d108_20 (by decide) (fun hp => absurd hp hc5) (fun _ => ?_)
        refine xs_aload_n d108_25 rfl ?_
        obtain ⟨h8, hc7, hf⟩ := lk_b hf
        refine xe_callv0 (as := []) (st := []) (h2 := h8) (d2 := d - 1) d108_26 ky108 ml67 st131 (by decide) cn131 rfl na131 (Nat.le_of_ble_eq_true rfl) (by omega) (f_B_startNow_ok (by omega) hc7) ?_
        refine xs_iconst (v := 0) d108_29 (by decide) ?_
        refine xe_istore_n (v := (0 : Int32)) (ls2 := [(0, xr 11 (some 0)), (1, xi v1), (2, xi v2), (3, xi (0 : Int32))]) d108_30 mx108 (by decide) rfl rfl ?_
        exact f_B_when_l31_ok hD hf K0
noncomputable def f_B_when (v1 : Int32) (v2 : Int32) (h : xH) : Option (Int32 × xH) := f_B_when_e v1 v2 h
theorem f_B_when_ok {g : xG} {l : Launch} {d : Nat} {v1 : Int32} {v2 : Int32} {h : xH} {r : Int32} {h1 : xH} (hD : 5 ≤ d) (hf : f_B_when v1 v2 h = some (r, h1)) : xC g l d 108 [xr 11 (some 0), xi v1, xi v2] h (some (xi r)) h1 :=
  xC_of2 (by decide) mx108 (Nat.le_of_ble_eq_true rfl) (f_B_when_e_ok hD hf (fun _ _ e => by cases e; exact ⟨rfl, rfl⟩))
theorem d109_0 : decode (xcode 109) 0 = .ok (.aload_n 0, 1) := by decide +kernel
theorem d109_1 : decode (xcode 109) 1 = .ok (.getfield 55, 3) := by decide +kernel
theorem d109_4 : decode (xcode 109) 4 = .ok (.getfield 114, 3) := by decide +kernel
theorem d109_7 : decode (xcode 109) 7 = .ok (.getfield 173, 3) := by decide +kernel
theorem d109_10 : decode (xcode 109) 10 = .ok (.ifCond .eq 12, 3) := by decide +kernel
theorem d109_13 : decode (xcode 109) 13 = .ok (.iload_n 1, 1) := by decide +kernel
theorem d109_14 : decode (xcode 109) 14 = .ok (.ifCond .lt 8, 3) := by decide +kernel
theorem d109_17 : decode (xcode 109) 17 = .ok (.iload_n 1, 1) := by decide +kernel
theorem d109_18 : decode (xcode 109) 18 = .ok (.iconst 2, 1) := by decide +kernel
theorem d109_19 : decode (xcode 109) 19 = .ok (.if_icmp .le 5, 3) := by decide +kernel
theorem d109_22 : decode (xcode 109) 22 = .ok (.iconst (-1), 1) := by decide +kernel
theorem d109_23 : decode (xcode 109) 23 = .ok (.ireturn, 1) := by decide +kernel
theorem d109_24 : decode (xcode 109) 24 = .ok (.aload_n 0, 1) := by decide +kernel
theorem d109_25 : decode (xcode 109) 25 = .ok (.invokevirtual 184, 3) := by decide +kernel
theorem d109_28 : decode (xcode 109) 28 = .ok (.bipush (-2), 2) := by decide +kernel
theorem d109_30 : decode (xcode 109) 30 = .ok (.istore_n 2, 1) := by decide +kernel
theorem d109_31 : decode (xcode 109) 31 = .ok (.iconst 0, 1) := by decide +kernel
theorem d109_32 : decode (xcode 109) 32 = .ok (.istore_n 3, 1) := by decide +kernel
theorem d109_33 : decode (xcode 109) 33 = .ok (.iload_n 3, 1) := by decide +kernel
theorem d109_34 : decode (xcode 109) 34 = .ok (.bipush 100, 2) := by decide +kernel
theorem d109_36 : decode (xcode 109) 36 = .ok (.if_icmp .ge 42, 3) := by decide +kernel
theorem d109_39 : decode (xcode 109) 39 = .ok (.aload_n 0, 1) := by decide +kernel
theorem d109_40 : decode (xcode 109) 40 = .ok (.getfield 77, 3) := by decide +kernel
theorem d109_43 : decode (xcode 109) 43 = .ok (.invokevirtual 187, 3) := by decide +kernel
theorem d109_46 : decode (xcode 109) 46 = .ok (.istore 4, 2) := by decide +kernel
theorem d109_48 : decode (xcode 109) 48 = .ok (.iload 4, 2) := by decide +kernel
theorem d109_50 : decode (xcode 109) 50 = .ok (.iconst (-1), 1) := by decide +kernel
theorem d109_51 : decode (xcode 109) 51 = .ok (.if_icmp .eq 21, 3) := by decide +kernel
theorem d109_54 : decode (xcode 109) 54 = .ok (.aload_n 0, 1) := by decide +kernel
theorem d109_55 : decode (xcode 109) 55 = .ok (.getfield 77, 3) := by decide +kernel
theorem d109_58 : decode (xcode 109) 58 = .ok (.getfield 190, 3) := by decide +kernel
theorem d109_61 : decode (xcode 109) 61 = .ok (.iload 4, 2) := by decide +kernel
theorem d109_63 : decode (xcode 109) 63 = .ok (.invokevirtual 238, 3) := by decide +kernel
theorem d109_66 : decode (xcode 109) 66 = .ok (.ifCond .eq 6, 3) := by decide +kernel
theorem d109_69 : decode (xcode 109) 69 = .ok (.iload 4, 2) := by decide +kernel
theorem d109_71 : decode (xcode 109) 71 = .ok (.istore_n 2, 1) := by decide +kernel
theorem d109_72 : decode (xcode 109) 72 = .ok (.iinc 3 1, 3) := by decide +kernel
theorem d109_75 : decode (xcode 109) 75 = .ok (.goto (-42), 3) := by decide +kernel
theorem d109_78 : decode (xcode 109) 78 = .ok (.aload_n 0, 1) := by decide +kernel
theorem d109_79 : decode (xcode 109) 79 = .ok (.getfield 77, 3) := by decide +kernel
theorem d109_82 : decode (xcode 109) 82 = .ok (.getfield 190, 3) := by decide +kernel
theorem d109_85 : decode (xcode 109) 85 = .ok (.getfield 218, 3) := by decide +kernel
theorem d109_88 : decode (xcode 109) 88 = .ok (.aload_n 0, 1) := by decide +kernel
theorem d109_89 : decode (xcode 109) 89 = .ok (.getfield 55, 3) := by decide +kernel
theorem d109_92 : decode (xcode 109) 92 = .ok (.getfield 121, 3) := by decide +kernel
theorem d109_95 : decode (xcode 109) 95 = .ok (.getfield 218, 3) := by decide +kernel
theorem d109_98 : decode (xcode 109) 98 = .ok (.iconst (-1), 1) := by decide +kernel
theorem d109_99 : decode (xcode 109) 99 = .ok (.ixor, 1) := by decide +kernel
theorem d109_100 : decode (xcode 109) 100 = .ok (.iand, 1) := by decide +kernel
theorem d109_101 : decode (xcode 109) 101 = .ok (.istore_n 3, 1) := by decide +kernel
theorem d109_102 : decode (xcode 109) 102 = .ok (.iload_n 1, 1) := by decide +kernel
theorem d109_103 : decode (xcode 109) 103 = .ok (.lookupswitch 42 #[(0, 25), (1, 30)], 25) := by decide +kernel
theorem d109_128 : decode (xcode 109) 128 = .ok (.iload_n 3, 1) := by decide +kernel
theorem d109_129 : decode (xcode 109) 129 = .ok (.invokestatic 233, 3) := by decide +kernel
theorem d109_132 : decode (xcode 109) 132 = .ok (.ireturn, 1) := by decide +kernel
theorem d109_133 : decode (xcode 109) 133 = .ok (.aload_n 0, 1) := by decide +kernel
theorem d109_134 : decode (xcode 109) 134 = .ok (.getfield 55, 3) := by decide +kernel
theorem d109_137 : decode (xcode 109) 137 = .ok (.getfield 114, 3) := by decide +kernel
theorem d109_140 : decode (xcode 109) 140 = .ok (.iload_n 3, 1) := by decide +kernel
theorem d109_141 : decode (xcode 109) 141 = .ok (.invokevirtual 221, 3) := by decide +kernel
theorem d109_144 : decode (xcode 109) 144 = .ok (.ireturn, 1) := by decide +kernel
theorem d109_145 : decode (xcode 109) 145 = .ok (.iload_n 2, 1) := by decide +kernel
theorem d109_146 : decode (xcode 109) 146 = .ok (.ireturn, 1) := by decide +kernel
noncomputable def f_B_dusk_b78 (v1 : Int32) (v2 : Int32) (h : xH) : Option (Int32 × xH) :=
  xlet ((h.1 6 3 25) &&& ((h.1 6 3 0) ^^^ (-1 : Int32))) fun v3_8 =>
  if v1 = (0 : Int32) then (
  (f_Integer_bitCount v3_8 h).bind fun r10 =>
  some ((r10, h))) else (
  if v1 = (1 : Int32) then (
  (f_Told_deepOf 0 v3_8 h).bind fun r13 =>
  some ((r13, h))) else (
  some ((v2, h))))
set_option maxHeartbeats 4000000 in
set_option maxRecDepth 100000 in
theorem f_B_dusk_b78_ok {g : xG} {l : Launch} {d : Nat} {v1 : Int32} {v2 : Int32} {h : xH} {o : (Int32 × xH)} {R : Option xV} {H' : xH} (hD : 5 ≤ d) (hf : f_B_dusk_b78 v1 v2 h = some o) (K0 : ∀ (a : Int32) (h1 : xH), o = (a, h1) → R = some (xi a) ∧ H' = h1) : xEv g l d 109 78 [(0, xr 11 (some 0)), (1, xi v1), (2, xi v2)] [] h R H' := by
  unfold f_B_dusk_b78 at hf
  refine xs_aload_n d109_78 rfl ?_
  refine xe_getc (j := 0) d109_79 ky109 fl157 fk11_10 rfl ?_
  refine xe_getc (j := 25) d109_82 ky109 fl112 fk10_0 rfl ?_
  refine xe_geti d109_85 ky109 fl81 fk6_3 ?_
  refine xs_aload_n d109_88 rfl ?_
  refine xe_getc (j := 0) d109_89 ky109 fl153 fk11_6 rfl ?_
  refine xe_getc (j := 0) d109_92 ky109 fl98 fk4_1 rfl ?_
  refine xe_geti d109_95 ky109 fl81 fk6_3 ?_
  refine xs_iconst (v := -1) d109_98 (by decide) ?_
  refine xs_ixor d109_99 ?_
  refine xs_iand d109_100 ?_
  obtain ⟨v3_8, ev3_8, hf⟩ := lk_let hf
  refine xe_istore_n (v := v3_8) (ls2 := [(0, xr 11 (some 0)), (1, xi v1), (2, xi v2), (3, xi v3_8)]) d109_101 mx109 (by decide) ev3_8 rfl ?_
  refine xs_iload_n d109_102 rfl ?_
  rcases lk_if hf with ⟨hc9, hf⟩ | ⟨hc9, hf⟩
  · refine xs_lookup (tgt := 128) d109_103 (by decide) (by rw [hc9]; first | done | rfl) (by decide) ?_
    refine xs_iload_n d109_128 rfl ?_
    obtain ⟨r10, hc11, hf⟩ := lk_b hf
    refine xe_calls1 (as := [xi v3_8]) (st := []) (h2 := h) (d2 := d - 1) d109_129 ky109 ml105 st255 rfl na255 (Nat.le_of_ble_eq_true rfl) (by omega) (f_Integer_bitCount_ok (by omega) hc11) ?_
    obtain ⟨eR, eH⟩ := K0 _ _ (Option.some.inj hf).symm
    subst eR; subst eH
    exact xs_iret d109_132 rt109
  · skip
    rcases lk_if hf with ⟨hc12, hf⟩ | ⟨hc12, hf⟩
    · refine xs_lookup (tgt := 133) d109_103 (by decide) (by rw [hc12]; first | done | rfl) (by decide) ?_
      refine xs_aload_n d109_133 rfl ?_
      refine xe_getc (j := 0) d109_134 ky109 fl153 fk11_6 rfl ?_
      refine xe_getc (j := 0) d109_137 ky109 fl96 fk4_0 rfl ?_
      refine xs_iload_n d109_140 rfl ?_
      obtain ⟨r13, hc14, hf⟩ := lk_b hf
      refine xe_callv1 (as := [xi v3_8]) (st := []) (h2 := h) (d2 := d - 1) d109_141 ky109 ml103 st77 (by decide) cn77 rfl na77 (Nat.le_of_ble_eq_true rfl) (by omega) (f_Told_deepOf_ok (by omega) hc14) ?_
      obtain ⟨eR, eH⟩ := K0 _ _ (Option.some.inj hf).symm
      subst eR; subst eH
      exact xs_iret d109_144 rt109
    · skip
      refine xs_lookup (tgt := 145) d109_103 (by decide) (xlk_out (l := [(0, 25), (1, 30)]) (List.forall_mem_cons.mpr ⟨xlk_ne (by decide) hc9, List.forall_mem_cons.mpr ⟨xlk_ne (by decide) hc12, fun _ h => absurd h List.not_mem_nil⟩⟩)) (by decide) ?_
      refine xs_iload_n d109_145 rfl ?_
      obtain ⟨eR, eH⟩ := K0 _ _ (Option.some.inj hf).symm
      subst eR; subst eH
      exact xs_iret d109_146 rt109
noncomputable def f_B_dusk_b72 (v1 : Int32) (v2 : Int32) (v3 : Int32) (h : xH) : Option ((Int32 × Int32 × xH) ⊕ (Int32 × xH)) :=
  xlet (v3 + (1 : Int32)) fun v3_19 =>
  some (Sum.inl (v2, v3_19, h))
set_option maxHeartbeats 4000000 in
set_option maxRecDepth 100000 in
theorem f_B_dusk_b72_ok {g : xG} {l : Launch} {d : Nat} {v1 : Int32} {v2 : Int32} {v3 : Int32} {h : xH} {o : ((Int32 × Int32 × xH) ⊕ (Int32 × xH))} {R : Option xV} {H' : xH} (hD : 5 ≤ d) (hf : f_B_dusk_b72 v1 v2 v3 h = some o) (K1 : ∀ (w2 : Int32) (w3 : Int32) (h1 : xH), o = Sum.inl (w2, w3, h1) → xEv g l d 109 33 [(0, xr 11 (some 0)), (1, xi v1), (2, xi w2), (3, xi w3)] [] h1 R H') (K0 : ∀ (a : Int32) (h1 : xH), o = Sum.inr ((a, h1)) → R = some (xi a) ∧ H' = h1) : xEv g l d 109 72 [(0, xr 11 (some 0)), (1, xi v1), (2, xi v2), (3, xi v3)] [] h R H' := by
  unfold f_B_dusk_b72 at hf
  obtain ⟨v3_19, ev3_19, hf⟩ := lk_let hf
  refine xe_iinc (v := v3_19) (b := 1) (ls2 := [(0, xr 11 (some 0)), (1, xi v1), (2, xi v2), (3, xi v3_19)]) d109_72 mx109 (by decide) rfl (by decide) ev3_19 rfl ?_
  refine xs_goto (tgt := 33) d109_75 (by decide) ?_
  exact K1 _ _ _ (Option.some.inj hf).symm
noncomputable def f_B_dusk_s33 (v1 : Int32) (v2 : Int32) (v3 : Int32) (h : xH) : Option ((Int32 × Int32 × xH) ⊕ (Int32 × xH)) :=
  if (100 : Int32) ≤ v3 then (
  xup (f_B_dusk_b78 v1 v2 h)) else (
  (f_Walk_goOn h).bind fun q17 =>
  if q17.1 = (-1 : Int32) then (
  f_B_dusk_b72 v1 v2 v3 q17.2) else (
  (f_State_isLetBe 25 q17.1 q17.2).bind fun r20 =>
  if r20 = (0 : Int32) then (
  f_B_dusk_b72 v1 v2 v3 q17.2) else (
  f_B_dusk_b72 v1 q17.1 v3 q17.2)))
set_option maxHeartbeats 4000000 in
set_option maxRecDepth 100000 in
theorem f_B_dusk_s33_ok {g : xG} {l : Launch} {d : Nat} {v1 : Int32} {v2 : Int32} {v3 : Int32} {h : xH} {o : ((Int32 × Int32 × xH) ⊕ (Int32 × xH))} {R : Option xV} {H' : xH} (hD : 5 ≤ d) (hf : f_B_dusk_s33 v1 v2 v3 h = some o) (K1 : ∀ (w2 : Int32) (w3 : Int32) (h1 : xH), o = Sum.inl (w2, w3, h1) → xEv g l d 109 33 [(0, xr 11 (some 0)), (1, xi v1), (2, xi w2), (3, xi w3)] [] h1 R H') (K0 : ∀ (a : Int32) (h1 : xH), o = Sum.inr ((a, h1)) → R = some (xi a) ∧ H' = h1) : xEv g l d 109 33 [(0, xr 11 (some 0)), (1, xi v1), (2, xi v2), (3, xi v3)] [] h R H' := by
  unfold f_B_dusk_s33 at hf
  refine xs_iload_n d109_33 rfl ?_
  refine xs_bipush (v := 100) d109_34 (by decide) ?_
  rcases lk_if hf with ⟨hc7, hf⟩ | ⟨hc7, hf⟩
  · refine xs_icmp_ge (tgt := 78) d109_36 (by decide) (fun _ => ?_) (fun hn => absurd hc7 hn)
    refine xs_pick [0, 1, 2] rfl ?_
    obtain ⟨x0, hf, ex0⟩ := lk_up hf
    exact f_B_dusk_b78_ok hD hf (fun u0 u1 e => K0 u0 u1 (ex0.trans (congrArg Sum.inr e)))
  · refine xs_icmp_ge (tgt := 78) d109_36 (by decide) (fun hp => absurd hp hc7) (fun _ => ?_)
    refine xs_aload_n d109_39 rfl ?_
    refine xe_getc (j := 0) d109_40 ky109 fl157 fk11_10 rfl ?_
    obtain ⟨q17, hc16, hf⟩ := lk_b hf
    refine xe_callv1 (as := []) (st := []) (h2 := q17.2) (d2 := d - 1) d109_43 ky109 ml71 st87 (by decide) cn87 rfl na87 (Nat.le_of_ble_eq_true rfl) (by omega) (f_Walk_goOn_ok (by omega) hc16) ?_
    refine xe_istore (v := q17.1) (ls2 := [(0, xr 11 (some 0)), (1, xi v1), (2, xi v2), (3, xi v3), (4, xi q17.1)]) d109_46 mx109 (by decide) rfl rfl ?_
    refine xs_iload d109_48 rfl ?_
    refine xs_iconst (v := -1) d109_50 (by decide) ?_
    rcases lk_if hf with ⟨hc18, hf⟩ | ⟨hc18, hf⟩
    · refine xs_icmp_eq (tgt := 72) d109_51 (by decide) (fun _ => ?_) (fun hn => absurd hc18 hn)
      refine xs_pick [0, 1, 2, 3] rfl ?_
      exact f_B_dusk_b72_ok hD hf K1 K0
    · refine xs_icmp_eq (tgt := 72) d109_51 (by decide) (fun hp => absurd hp hc18) (fun _ => ?_)
      refine xs_aload_n d109_54 rfl ?_
      refine xe_getc (j := 0) d109_55 ky109 fl157 fk11_10 rfl ?_
      refine xe_getc (j := 25) d109_58 ky109 fl112 fk10_0 rfl ?_
      refine xs_iload d109_61 rfl ?_
      obtain ⟨r20, hc21, hf⟩ := lk_b hf
      refine xe_callv1 (as := [xi q17.1]) (st := []) (h2 := q17.2) (d2 := d - 1) d109_63 ky109 ml108 st48 (by decide) cn48 rfl na48 (Nat.le_of_ble_eq_true rfl) (by omega) (f_State_isLetBe_ok (by omega) hc21) ?_
      rcases lk_if hf with ⟨hc22, hf⟩ | ⟨hc22, hf⟩
      · refine xs_if_eq (tgt := 72) d109_66 (by decide) (fun _ => ?_) (fun hn => absurd hc22 hn)
        refine xs_pick [0, 1, 2, 3] rfl ?_
        exact f_B_dusk_b72_ok hD hf K1 K0
      · refine xs_if_eq (tgt := 72) d109_66 (by decide) (fun hp => absurd hp hc22) (fun _ => ?_)
        refine xs_iload d109_69 rfl ?_
        refine xe_istore_n (v := q17.1) (ls2 := [(0, xr 11 (some 0)), (1, xi v1), (2, xi q17.1), (3, xi v3), (4, xi q17.1)]) d109_71 mx109 (by decide) rfl rfl ?_
        refine xs_pick [0, 1, 2, 3] rfl ?_
        exact f_B_dusk_b72_ok hD hf K1 K0
noncomputable def f_B_dusk_l33 (v1 : Int32) (v2 : Int32) (v3 : Int32) (h : xH) : Option (Int32 × xH) :=
  whl (fun s => f_B_dusk_s33 v1 s.1 s.2.1 s.2.2) (v2, v3, h)
theorem f_B_dusk_l33_ok {g : xG} {l : Launch} {d : Nat} {v1 : Int32} {v2 : Int32} {v3 : Int32} {h : xH} {o : (Int32 × xH)} {R : Option xV} {H' : xH} (hD : 5 ≤ d) (hf : f_B_dusk_l33 v1 v2 v3 h = some o) (K0 : ∀ (a : Int32) (h1 : xH), o = (a, h1) → R = some (xi a) ∧ H' = h1) : xEv g l d 109 33 [(0, xr 11 (some 0)), (1, xi v1), (2, xi v2), (3, xi v3)] [] h R H' := by
  obtain ⟨n, hn⟩ := whl_iff.mp hf
  clear hf
  induction n generalizing v2 v3 h with
  | zero => cases hn
  | succ n ih =>
    obtain ⟨o2, hs, hn⟩ := lk_b (show (f_B_dusk_s33 v1 v2 v3 h).bind (fun o => Sum.elim (itn _ n) some o) = some o from hn)
    exact f_B_dusk_s33_ok hD hs (fun u0 u1 u2 e => ih (by rw [e] at hn; exact hn)) (fun u0 u1 e => K0 u0 u1 (by rw [e] at hn; exact (Option.some.inj hn).symm))
noncomputable def f_B_dusk_e (v1 : Int32) (h : xH) : Option (Int32 × xH) :=
  if (h.1 8 0 0) = (0 : Int32) then (
  some (((-1 : Int32), h))) else (
  if v1 < (0 : Int32) then (
  some (((-1 : Int32), h))) else (
  if v1 ≤ (2 : Int32) then (
  (f_B_startNow h).bind fun h6 =>
  f_B_dusk_l33 v1 (-2 : Int32) (0 : Int32) h6) else (
  some (((-1 : Int32), h)))))
set_option maxHeartbeats 4000000 in
set_option maxRecDepth 100000 in
theorem f_B_dusk_e_ok {g : xG} {l : Launch} {d : Nat} {v1 : Int32} {h : xH} {o : (Int32 × xH)} {R : Option xV} {H' : xH} (hD : 5 ≤ d) (hf : f_B_dusk_e v1 h = some o) (K0 : ∀ (a : Int32) (h1 : xH), o = (a, h1) → R = some (xi a) ∧ H' = h1) : xEv g l d 109 0 [(0, xr 11 (some 0)), (1, xi v1)] [] h R H' := by
  unfold f_B_dusk_e at hf
  refine xs_aload_n d109_0 rfl ?_
  refine xe_getc (j := 0) d109_1 ky109 fl153 fk11_6 rfl ?_
  refine xe_getc (j := 0) d109_4 ky109 fl96 fk4_0 rfl ?_
  refine xe_geti d109_7 ky109 fl19 fk8_0 ?_
  rcases lk_if hf with ⟨hc1, hf⟩ | ⟨hc1, hf⟩
  · refine xs_if_eq (tgt := 22) d109_10 (by decide) (fun _ => ?_) (fun hn => absurd hc1 hn)
    refine xs_iconst (v := -1) d109_22 (by decide) ?_
    obtain ⟨eR, eH⟩ := K0 _ _ (Option.some.inj hf).symm
    subst eR; subst eH
    exact xs_iret d109_23 rt109
  · refine xs_if_eq (tgt := 22) d109_10 (by decide) (fun hp => absurd hp hc1) (fun _ => ?_)
    refine xs_iload_n d109_13 rfl ?_
    rcases lk_if hf with ⟨hc2, hf⟩ | ⟨hc2, hf⟩
    · refine xs_if_lt (tgt := 22) d109_14 (by decide) (fun _ => ?_) (fun hn => absurd hc2 hn)
      refine xs_iconst (v := -1) d109_22 (by decide) ?_
      obtain ⟨eR, eH⟩ := K0 _ _ (Option.some.inj hf).symm
      subst eR; subst eH
      exact xs_iret d109_23 rt109
    · refine xs_if_lt (tgt := 22) d109_14 (by decide) (fun hp => absurd hp hc2) (fun _ => ?_)
      refine xs_iload_n d109_17 rfl ?_
      refine xs_iconst (v := 2) d109_18 (by decide) ?_
      rcases lk_if hf with ⟨hc3, hf⟩ | ⟨hc3, hf⟩
      · refine xs_icmp_le (tgt := 24) d109_19 (by decide) (fun _ => ?_) (fun hn => absurd hc3 hn)
        refine xs_aload_n d109_24 rfl ?_
        obtain ⟨h6, hc5, hf⟩ := lk_b hf
        refine xe_callv0 (as := []) (st := []) (h2 := h6) (d2 := d - 1) d109_25 ky109 ml67 st131 (by decide) cn131 rfl na131 (Nat.le_of_ble_eq_true rfl) (by omega) (f_B_startNow_ok (by omega) hc5) ?_
        refine xs_bipush (v := -2) d109_28 (by decide) ?_
        refine xe_istore_n (v := (-2 : Int32)) (ls2 := [(0, xr 11 (some 0)), (1, xi v1), (2, xi (-2 : Int32))]) d109_30 mx109 (by decide) rfl rfl ?_
        refine xs_iconst (v := 0) d109_31 (by decide) ?_
        refine xe_istore_n (v := (0 : Int32)) (ls2 := [(0, xr 11 (some 0)), (1, xi v1), (2, xi (-2 : Int32)), (3, xi (0 : Int32))]) d109_32 mx109 (by decide) rfl rfl ?_
        exact f_B_dusk_l33_ok hD hf K0
      · refine xs_icmp_le (tgt := 24) d109_19 (by decide) (fun hp => absurd hp hc3) (fun _ => ?_)
        refine xs_iconst (v := -1) d109_22 (by decide) ?_
        obtain ⟨eR, eH⟩ := K0 _ _ (Option.some.inj hf).symm
        subst eR; subst eH
        exact xs_iret d109_23 rt109
noncomputable def f_B_dusk (v1 : Int32) (h : xH) : Option (Int32 × xH) := f_B_dusk_e v1 h
theorem f_B_dusk_ok {g : xG} {l : Launch} {d : Nat} {v1 : Int32} {h : xH} {r : Int32} {h1 : xH} (hD : 5 ≤ d) (hf : f_B_dusk v1 h = some (r, h1)) : xC g l d 109 [xr 11 (some 0), xi v1] h (some (xi r)) h1 :=
  xC_of2 (by decide) mx109 (Nat.le_of_ble_eq_true rfl) (f_B_dusk_e_ok hD hf (fun _ _ e => by cases e; exact ⟨rfl, rfl⟩))
theorem d133_0 : decode (xcode 133) 0 = .ok (.aload_n 0, 1) := by decide +kernel
theorem d133_1 : decode (xcode 133) 1 = .ok (.invokevirtual 184, 3) := by decide +kernel
theorem d133_4 : decode (xcode 133) 4 = .ok (.aload_n 0, 1) := by decide +kernel
theorem d133_5 : decode (xcode 133) 5 = .ok (.getfield 77, 3) := by decide +kernel
theorem d133_8 : decode (xcode 133) 8 = .ok (.getfield 190, 3) := by decide +kernel
theorem d133_11 : decode (xcode 133) 11 = .ok (.iload_n 1, 1) := by decide +kernel
theorem d133_12 : decode (xcode 133) 12 = .ok (.invokevirtual 206, 3) := by decide +kernel
theorem d133_15 : decode (xcode 133) 15 = .ok (.aload_n 0, 1) := by decide +kernel
theorem d133_16 : decode (xcode 133) 16 = .ok (.getfield 55, 3) := by decide +kernel
theorem d133_19 : decode (xcode 133) 19 = .ok (.getfield 114, 3) := by decide +kernel
theorem d133_22 : decode (xcode 133) 22 = .ok (.getfield 196, 3) := by decide +kernel
theorem d133_25 : decode (xcode 133) 25 = .ok (.aload_n 0, 1) := by decide +kernel
theorem d133_26 : decode (xcode 133) 26 = .ok (.getfield 77, 3) := by decide +kernel
theorem d133_29 : decode (xcode 133) 29 = .ok (.getfield 190, 3) := by decide +kernel
theorem d133_32 : decode (xcode 133) 32 = .ok (.getfield 151, 3) := by decide +kernel
theorem d133_35 : decode (xcode 133) 35 = .ok (.iload_n 2, 1) := by decide +kernel
theorem d133_36 : decode (xcode 133) 36 = .ok (.iaload, 1) := by decide +kernel
theorem d133_37 : decode (xcode 133) 37 = .ok (.isub, 1) := by decide +kernel
theorem d133_38 : decode (xcode 133) 38 = .ok (.istore_n 3, 1) := by decide +kernel
theorem d133_39 : decode (xcode 133) 39 = .ok (.iconst 0, 1) := by decide +kernel
theorem d133_40 : decode (xcode 133) 40 = .ok (.istore 4, 2) := by decide +kernel
theorem d133_42 : decode (xcode 133) 42 = .ok (.iload 4, 2) := by decide +kernel
theorem d133_44 : decode (xcode 133) 44 = .ok (.bipush 100, 2) := by decide +kernel
theorem d133_46 : decode (xcode 133) 46 = .ok (.if_icmp .ge 56, 3) := by decide +kernel
theorem d133_49 : decode (xcode 133) 49 = .ok (.aload_n 0, 1) := by decide +kernel
theorem d133_50 : decode (xcode 133) 50 = .ok (.getfield 77, 3) := by decide +kernel
theorem d133_53 : decode (xcode 133) 53 = .ok (.getfield 190, 3) := by decide +kernel
theorem d133_56 : decode (xcode 133) 56 = .ok (.getfield 203, 3) := by decide +kernel
theorem d133_59 : decode (xcode 133) 59 = .ok (.iload_n 3, 1) := by decide +kernel
theorem d133_60 : decode (xcode 133) 60 = .ok (.if_icmp .gt 42, 3) := by decide +kernel
theorem d133_63 : decode (xcode 133) 63 = .ok (.aload_n 0, 1) := by decide +kernel
theorem d133_64 : decode (xcode 133) 64 = .ok (.getfield 77, 3) := by decide +kernel
theorem d133_67 : decode (xcode 133) 67 = .ok (.getfield 356, 3) := by decide +kernel
theorem d133_70 : decode (xcode 133) 70 = .ok (.ifCond .ne 32, 3) := by decide +kernel
theorem d133_73 : decode (xcode 133) 73 = .ok (.aload_n 0, 1) := by decide +kernel
theorem d133_74 : decode (xcode 133) 74 = .ok (.getfield 77, 3) := by decide +kernel
theorem d133_77 : decode (xcode 133) 77 = .ok (.invokevirtual 187, 3) := by decide +kernel
theorem d133_80 : decode (xcode 133) 80 = .ok (.iload_n 2, 1) := by decide +kernel
theorem d133_81 : decode (xcode 133) 81 = .ok (.if_icmp .ne 15, 3) := by decide +kernel
theorem d133_84 : decode (xcode 133) 84 = .ok (.aload_n 0, 1) := by decide +kernel
theorem d133_85 : decode (xcode 133) 85 = .ok (.getfield 77, 3) := by decide +kernel
theorem d133_88 : decode (xcode 133) 88 = .ok (.getfield 190, 3) := by decide +kernel
theorem d133_91 : decode (xcode 133) 91 = .ok (.iload_n 2, 1) := by decide +kernel
theorem d133_92 : decode (xcode 133) 92 = .ok (.invokevirtual 238, 3) := by decide +kernel
theorem d133_95 : decode (xcode 133) 95 = .ok (.ireturn, 1) := by decide +kernel
theorem d133_96 : decode (xcode 133) 96 = .ok (.iinc 4 1, 3) := by decide +kernel
theorem d133_99 : decode (xcode 133) 99 = .ok (.goto (-57), 3) := by decide +kernel
theorem d133_102 : decode (xcode 133) 102 = .ok (.iconst 0, 1) := by decide +kernel
theorem d133_103 : decode (xcode 133) 103 = .ok (.ireturn, 1) := by decide +kernel
noncomputable def f_B_isLetBeAfter_b84 (v2 : Int32) (h : xH) : Option (Int32 × xH) :=
  (f_State_isLetBe 25 v2 h).bind fun r16 =>
  if r16 = 0 ∨ r16 = 1 then (
  some ((r16, h))) else none
set_option maxHeartbeats 4000000 in
set_option maxRecDepth 100000 in
theorem f_B_isLetBeAfter_b84_ok {g : xG} {l : Launch} {d : Nat} {v2 : Int32} {h : xH} {o : (Int32 × xH)} {R : Option xV} {H' : xH} (hD : 5 ≤ d) (hf : f_B_isLetBeAfter_b84 v2 h = some o) (K0 : ∀ (a : Int32) (h1 : xH), o = (a, h1) → R = some (xi a) ∧ H' = h1) : xEv g l d 133 84 [(0, xr 11 (some 0)), (2, xi v2)] [] h R H' := by
  unfold f_B_isLetBeAfter_b84 at hf
  refine xs_aload_n d133_84 rfl ?_
  refine xe_getc (j := 0) d133_85 ky133 fl157 fk11_10 rfl ?_
  refine xe_getc (j := 25) d133_88 ky133 fl112 fk10_0 rfl ?_
  refine xs_iload_n d133_91 rfl ?_
  obtain ⟨r16, hc17, hf⟩ := lk_b hf
  refine xe_callv1 (as := [xi v2]) (st := []) (h2 := h) (d2 := d - 1) d133_92 ky133 ml108 st48 (by decide) cn48 rfl na48 (Nat.le_of_ble_eq_true rfl) (by omega) (f_State_isLetBe_ok (by omega) hc17) ?_
  obtain ⟨hz18, hf⟩ := lk_g hf
  obtain ⟨eR, eH⟩ := K0 _ _ (Option.some.inj hf).symm
  subst eR; subst eH
  exact xe_zret d133_95 hz18 rt133
noncomputable def f_B_isLetBeAfter_s42 (v2 : Int32) (v3 : Int32) (v4 : Int32) (h : xH) : Option ((Int32 × xH) ⊕ (Int32 × xH)) :=
  if (100 : Int32) ≤ v4 then (
  some (Sum.inr (((0 : Int32), h)))) else (
  if v3 < (h.1 6 0 25) then (
  some (Sum.inr (((0 : Int32), h)))) else (
  if (h.1 10 1 0) = (0 : Int32) then (
  (f_Walk_goOn h).bind fun q14 =>
  if q14.1 = v2 then (
  xup (f_B_isLetBeAfter_b84 v2 q14.2)) else (
  xlet (v4 + (1 : Int32)) fun v4_19 =>
  some (Sum.inl (v4_19, q14.2)))) else (
  some (Sum.inr (((0 : Int32), h))))))
set_option maxHeartbeats 4000000 in
set_option maxRecDepth 100000 in
theorem f_B_isLetBeAfter_s42_ok {g : xG} {l : Launch} {d : Nat} {v2 : Int32} {v3 : Int32} {v4 : Int32} {h : xH} {o : ((Int32 × xH) ⊕ (Int32 × xH))} {R : Option xV} {H' : xH} (hD : 5 ≤ d) (hf : f_B_isLetBeAfter_s42 v2 v3 v4 h = some o) (K1 : ∀ (w4 : Int32) (h1 : xH), o = Sum.inl (w4, h1) → xEv g l d 133 42 [(0, xr 11 (some 0)), (2, xi v2), (3, xi v3), (4, xi w4)] [] h1 R H') (K0 : ∀ (a : Int32) (h1 : xH), o = Sum.inr ((a, h1)) → R = some (xi a) ∧ H' = h1) : xEv g l d 133 42 [(0, xr 11 (some 0)), (2, xi v2), (3, xi v3), (4, xi v4)] [] h R H' := by
  unfold f_B_isLetBeAfter_s42 at hf
  refine xs_iload d133_42 rfl ?_
  refine xs_bipush (v := 100) d133_44 (by decide) ?_
  rcases lk_if hf with ⟨hc9, hf⟩ | ⟨hc9, hf⟩
  · refine xs_icmp_ge (tgt := 102) d133_46 (by decide) (fun _ => ?_) (fun hn => absurd hc9 hn)
    refine xs_iconst (v := 0) d133_102 (by decide) ?_
    obtain ⟨eR, eH⟩ := K0 _ _ (Option.some.inj hf).symm
    subst eR; subst eH
    exact xe_zret d133_103 (Or.inl rfl) rt133
  · refine xs_icmp_ge (tgt := 102) d133_46 (by decide) (fun hp => absurd hp hc9) (fun _ => ?_)
    refine xs_aload_n d133_49 rfl ?_
    refine xe_getc (j := 0) d133_50 ky133 fl157 fk11_10 rfl ?_
    refine xe_getc (j := 25) d133_53 ky133 fl112 fk10_0 rfl ?_
    refine xe_geti d133_56 ky133 fl70 fk6_0 ?_
    refine xs_iload_n d133_59 rfl ?_
    rcases lk_if hf with ⟨hc10, hf⟩ | ⟨hc10, hf⟩
    · refine xs_icmp_gt (tgt := 102) d133_60 (by decide) (fun _ => ?_) (fun hn => absurd hc10 hn)
      refine xs_iconst (v := 0) d133_102 (by decide) ?_
      obtain ⟨eR, eH⟩ := K0 _ _ (Option.some.inj hf).symm
      subst eR; subst eH
      exact xe_zret d133_103 (Or.inl rfl) rt133
    · refine xs_icmp_gt (tgt := 102) d133_60 (by decide) (fun hp => absurd hp hc10) (fun _ => ?_)
      refine xs_aload_n d133_63 rfl ?_
      refine xe_getc (j := 0) d133_64 ky133 fl157 fk11_10 rfl ?_
      refine xe_geti d133_67 ky133 fl114 fk10_1 ?_
      rcases lk_if hf with ⟨hc11, hf⟩ | ⟨hc11, hf⟩
      · refine xs_if_ne (tgt := 102) d133_70 (by decide) (fun _ => ?_) (fun hn => absurd hc11 hn)
        refine xs_aload_n d133_73 rfl ?_
        refine xe_getc (j := 0) d133_74 ky133 fl157 fk11_10 rfl ?_
        obtain ⟨q14, hc13, hf⟩ := lk_b hf
        refine xe_callv1 (as := []) (st := []) (h2 := q14.2) (d2 := d - 1) d133_77 ky133 ml71 st87 (by decide) cn87 rfl na87 (Nat.le_of_ble_eq_true rfl) (by omega) (f_Walk_goOn_ok (by omega) hc13) ?_
        refine xs_iload_n d133_80 rfl ?_
        rcases lk_if hf with ⟨hc15, hf⟩ | ⟨hc15, hf⟩
        · refine xs_icmp_ne (tgt := 96) d133_81 (by decide) (fun _ => ?_) (fun hn => absurd hc15 hn)
          refine xs_pick [0, 1] rfl ?_
          obtain ⟨x0, hf, ex0⟩ := lk_up hf
          exact f_B_isLetBeAfter_b84_ok hD hf (fun u0 u1 e => K0 u0 u1 (ex0.trans (congrArg Sum.inr e)))
        · refine xs_icmp_ne (tgt := 96) d133_81 (by decide) (fun hp => absurd hp hc15) (fun _ => ?_)
          obtain ⟨v4_19, ev4_19, hf⟩ := lk_let hf
          refine xe_iinc (v := v4_19) (b := 1) (ls2 := [(0, xr 11 (some 0)), (2, xi v2), (3, xi v3), (4, xi v4_19)]) d133_96 mx133 (by decide) rfl (by decide) ev4_19 rfl ?_
          refine xs_goto (tgt := 42) d133_99 (by decide) ?_
          exact K1 _ _ (Option.some.inj hf).symm
      · refine xs_if_ne (tgt := 102) d133_70 (by decide) (fun hp => absurd hp hc11) (fun _ => ?_)
        refine xs_iconst (v := 0) d133_102 (by decide) ?_
        obtain ⟨eR, eH⟩ := K0 _ _ (Option.some.inj hf).symm
        subst eR; subst eH
        exact xe_zret d133_103 (Or.inl rfl) rt133
noncomputable def f_B_isLetBeAfter_l42 (v2 : Int32) (v3 : Int32) (v4 : Int32) (h : xH) : Option (Int32 × xH) :=
  whl (fun s => f_B_isLetBeAfter_s42 v2 v3 s.1 s.2) (v4, h)
theorem f_B_isLetBeAfter_l42_ok {g : xG} {l : Launch} {d : Nat} {v2 : Int32} {v3 : Int32} {v4 : Int32} {h : xH} {o : (Int32 × xH)} {R : Option xV} {H' : xH} (hD : 5 ≤ d) (hf : f_B_isLetBeAfter_l42 v2 v3 v4 h = some o) (K0 : ∀ (a : Int32) (h1 : xH), o = (a, h1) → R = some (xi a) ∧ H' = h1) : xEv g l d 133 42 [(0, xr 11 (some 0)), (2, xi v2), (3, xi v3), (4, xi v4)] [] h R H' := by
  obtain ⟨n, hn⟩ := whl_iff.mp hf
  clear hf
  induction n generalizing v4 h with
  | zero => cases hn
  | succ n ih =>
    obtain ⟨o2, hs, hn⟩ := lk_b (show (f_B_isLetBeAfter_s42 v2 v3 v4 h).bind (fun o => Sum.elim (itn _ n) some o) = some o from hn)
    exact f_B_isLetBeAfter_s42_ok hD hs (fun u0 u1 e => ih (by rw [e] at hn; exact hn)) (fun u0 u1 e => K0 u0 u1 (by rw [e] at hn; exact (Option.some.inj hn).symm))
noncomputable def f_B_isLetBeAfter_e (v1 : Int32) (v2 : Int32) (h : xH) : Option (Int32 × xH) :=
  (f_B_startNow h).bind fun h3 =>
  (f_State_pass 25 v1 h3).bind fun h6 =>
  if xib v2 8 then (
  xlet ((h6.1 8 1 0) - (h6.2.2.2.1 32 25 (v2).toNatClampNeg)) fun v3_8 =>
  f_B_isLetBeAfter_l42 v2 v3_8 (0 : Int32) h6) else none
set_option maxHeartbeats 4000000 in
set_option maxRecDepth 100000 in
theorem f_B_isLetBeAfter_e_ok {g : xG} {l : Launch} {d : Nat} {v1 : Int32} {v2 : Int32} {h : xH} {o : (Int32 × xH)} {R : Option xV} {H' : xH} (hD : 5 ≤ d) (hf : f_B_isLetBeAfter_e v1 v2 h = some o) (K0 : ∀ (a : Int32) (h1 : xH), o = (a, h1) → R = some (xi a) ∧ H' = h1) : xEv g l d 133 0 [(0, xr 11 (some 0)), (1, xi v1), (2, xi v2)] [] h R H' := by
  unfold f_B_isLetBeAfter_e at hf
  refine xs_aload_n d133_0 rfl ?_
  obtain ⟨h3, hc2, hf⟩ := lk_b hf
  refine xe_callv0 (as := []) (st := []) (h2 := h3) (d2 := d - 1) d133_1 ky133 ml67 st131 (by decide) cn131 rfl na131 (Nat.le_of_ble_eq_true rfl) (by omega) (f_B_startNow_ok (by omega) hc2) ?_
  refine xs_aload_n d133_4 rfl ?_
  refine xe_getc (j := 0) d133_5 ky133 fl157 fk11_10 rfl ?_
  refine xe_getc (j := 25) d133_8 ky133 fl112 fk10_0 rfl ?_
  refine xs_iload_n d133_11 rfl ?_
  obtain ⟨h6, hc5, hf⟩ := lk_b hf
  refine xe_callv0 (as := [xi v1]) (st := []) (h2 := h6) (d2 := d - 1) d133_12 ky133 ml96 st54 (by decide) cn54 rfl na54 (Nat.le_of_ble_eq_true rfl) (by omega) (f_State_pass_ok (by omega) hc5) ?_
  refine xs_aload_n d133_15 rfl ?_
  refine xe_getc (j := 0) d133_16 ky133 fl153 fk11_6 rfl ?_
  refine xe_getc (j := 0) d133_19 ky133 fl96 fk4_0 rfl ?_
  refine xe_geti d133_22 ky133 fl24 fk8_1 ?_
  refine xs_aload_n d133_25 rfl ?_
  refine xe_getc (j := 0) d133_26 ky133 fl157 fk11_10 rfl ?_
  refine xe_getc (j := 25) d133_29 ky133 fl112 fk10_0 rfl ?_
  refine xe_getc (j := 25) d133_32 ky133 fl93 fk6_7 rfl ?_
  refine xs_iload_n d133_35 rfl ?_
  obtain ⟨hin7, hf⟩ := lk_g hf
  refine xe_iald d133_36 (by decide) ak32 hin7 ?_
  refine xs_isub d133_37 ?_
  obtain ⟨v3_8, ev3_8, hf⟩ := lk_let hf
  refine xe_istore_n (v := v3_8) (ls2 := [(0, xr 11 (some 0)), (1, xi v1), (2, xi v2), (3, xi v3_8)]) d133_38 mx133 (by decide) ev3_8 rfl ?_
  refine xs_iconst (v := 0) d133_39 (by decide) ?_
  refine xe_istore (v := (0 : Int32)) (ls2 := [(0, xr 11 (some 0)), (1, xi v1), (2, xi v2), (3, xi v3_8), (4, xi (0 : Int32))]) d133_40 mx133 (by decide) rfl rfl ?_
  refine xs_pick [0, 2, 3, 4] rfl ?_
  exact f_B_isLetBeAfter_l42_ok hD hf K0
noncomputable def f_B_isLetBeAfter (v1 : Int32) (v2 : Int32) (h : xH) : Option (Int32 × xH) := f_B_isLetBeAfter_e v1 v2 h
theorem f_B_isLetBeAfter_ok {g : xG} {l : Launch} {d : Nat} {v1 : Int32} {v2 : Int32} {h : xH} {r : Int32} {h1 : xH} (hD : 5 ≤ d) (hf : f_B_isLetBeAfter v1 v2 h = some (r, h1)) : xC g l d 133 [xr 11 (some 0), xi v1, xi v2] h (some (xi r)) h1 :=
  xC_of2 (by decide) mx133 (Nat.le_of_ble_eq_true rfl) (f_B_isLetBeAfter_e_ok hD hf (fun _ _ e => by cases e; exact ⟨rfl, rfl⟩))
theorem d110_0 : decode (xcode 110) 0 = .ok (.aload_n 0, 1) := by decide +kernel
theorem d110_1 : decode (xcode 110) 1 = .ok (.getfield 55, 3) := by decide +kernel
theorem d110_4 : decode (xcode 110) 4 = .ok (.getfield 121, 3) := by decide +kernel
theorem d110_7 : decode (xcode 110) 7 = .ok (.iload_n 1, 1) := by decide +kernel
theorem d110_8 : decode (xcode 110) 8 = .ok (.invokevirtual 209, 3) := by decide +kernel
theorem d110_11 : decode (xcode 110) 11 = .ok (.ifCond .ne 5, 3) := by decide +kernel
theorem d110_14 : decode (xcode 110) 14 = .ok (.iconst (-1), 1) := by decide +kernel
theorem d110_15 : decode (xcode 110) 15 = .ok (.ireturn, 1) := by decide +kernel
theorem d110_16 : decode (xcode 110) 16 = .ok (.aload_n 0, 1) := by decide +kernel
theorem d110_17 : decode (xcode 110) 17 = .ok (.getfield 55, 3) := by decide +kernel
theorem d110_20 : decode (xcode 110) 20 = .ok (.getfield 114, 3) := by decide +kernel
theorem d110_23 : decode (xcode 110) 23 = .ok (.getfield 196, 3) := by decide +kernel
theorem d110_26 : decode (xcode 110) 26 = .ok (.aload_n 0, 1) := by decide +kernel
theorem d110_27 : decode (xcode 110) 27 = .ok (.getfield 55, 3) := by decide +kernel
theorem d110_30 : decode (xcode 110) 30 = .ok (.getfield 121, 3) := by decide +kernel
theorem d110_33 : decode (xcode 110) 33 = .ok (.getfield 203, 3) := by decide +kernel
theorem d110_36 : decode (xcode 110) 36 = .ok (.isub, 1) := by decide +kernel
theorem d110_37 : decode (xcode 110) 37 = .ok (.aload_n 0, 1) := by decide +kernel
theorem d110_38 : decode (xcode 110) 38 = .ok (.getfield 55, 3) := by decide +kernel
theorem d110_41 : decode (xcode 110) 41 = .ok (.getfield 121, 3) := by decide +kernel
theorem d110_44 : decode (xcode 110) 44 = .ok (.getfield 151, 3) := by decide +kernel
theorem d110_47 : decode (xcode 110) 47 = .ok (.iload_n 1, 1) := by decide +kernel
theorem d110_48 : decode (xcode 110) 48 = .ok (.iaload, 1) := by decide +kernel
theorem d110_49 : decode (xcode 110) 49 = .ok (.isub, 1) := by decide +kernel
theorem d110_50 : decode (xcode 110) 50 = .ok (.istore_n 2, 1) := by decide +kernel
theorem d110_51 : decode (xcode 110) 51 = .ok (.sipush 300, 3) := by decide +kernel
theorem d110_54 : decode (xcode 110) 54 = .ok (.iload_n 2, 1) := by decide +kernel
theorem d110_55 : decode (xcode 110) 55 = .ok (.invokestatic 241, 3) := by decide +kernel
theorem d110_58 : decode (xcode 110) 58 = .ok (.istore_n 3, 1) := by decide +kernel
theorem d110_59 : decode (xcode 110) 59 = .ok (.iload_n 3, 1) := by decide +kernel
theorem d110_60 : decode (xcode 110) 60 = .ok (.ifCond .lt 20, 3) := by decide +kernel
theorem d110_63 : decode (xcode 110) 63 = .ok (.aload_n 0, 1) := by decide +kernel
theorem d110_64 : decode (xcode 110) 64 = .ok (.iload_n 3, 1) := by decide +kernel
theorem d110_65 : decode (xcode 110) 65 = .ok (.iload_n 1, 1) := by decide +kernel
theorem d110_66 : decode (xcode 110) 66 = .ok (.invokevirtual 247, 3) := by decide +kernel
theorem d110_69 : decode (xcode 110) 69 = .ok (.ifCond .eq 5, 3) := by decide +kernel
theorem d110_72 : decode (xcode 110) 72 = .ok (.iload_n 3, 1) := by decide +kernel
theorem d110_73 : decode (xcode 110) 73 = .ok (.ireturn, 1) := by decide +kernel
theorem d110_74 : decode (xcode 110) 74 = .ok (.iinc 3 (-1), 3) := by decide +kernel
theorem d110_77 : decode (xcode 110) 77 = .ok (.goto (-18), 3) := by decide +kernel
theorem d110_80 : decode (xcode 110) 80 = .ok (.bipush (-2), 2) := by decide +kernel
theorem d110_82 : decode (xcode 110) 82 = .ok (.ireturn, 1) := by decide +kernel
noncomputable def f_B_slack_s59 (v1 : Int32) (v3 : Int32) (h : xH) : Option ((Int32 × xH) ⊕ (Int32 × xH)) :=
  if v3 < (0 : Int32) then (
  some (Sum.inr (((-2 : Int32), h)))) else (
  (f_B_isLetBeAfter v3 v1 h).bind fun q11 =>
  if q11.1 = (0 : Int32) then (
  xlet (v3 + (-1 : Int32)) fun v3_13 =>
  some (Sum.inl (v3_13, q11.2))) else (
  some (Sum.inr ((v3, q11.2)))))
set_option maxHeartbeats 4000000 in
set_option maxRecDepth 100000 in
theorem f_B_slack_s59_ok {g : xG} {l : Launch} {d : Nat} {v1 : Int32} {v3 : Int32} {h : xH} {o : ((Int32 × xH) ⊕ (Int32 × xH))} {R : Option xV} {H' : xH} (hD : 6 ≤ d) (hf : f_B_slack_s59 v1 v3 h = some o) (K1 : ∀ (w3 : Int32) (h1 : xH), o = Sum.inl (w3, h1) → xEv g l d 110 59 [(0, xr 11 (some 0)), (1, xi v1), (3, xi w3)] [] h1 R H') (K0 : ∀ (a : Int32) (h1 : xH), o = Sum.inr ((a, h1)) → R = some (xi a) ∧ H' = h1) : xEv g l d 110 59 [(0, xr 11 (some 0)), (1, xi v1), (3, xi v3)] [] h R H' := by
  unfold f_B_slack_s59 at hf
  refine xs_iload_n d110_59 rfl ?_
  rcases lk_if hf with ⟨hc8, hf⟩ | ⟨hc8, hf⟩
  · refine xs_if_lt (tgt := 80) d110_60 (by decide) (fun _ => ?_) (fun hn => absurd hc8 hn)
    refine xs_bipush (v := -2) d110_80 (by decide) ?_
    obtain ⟨eR, eH⟩ := K0 _ _ (Option.some.inj hf).symm
    subst eR; subst eH
    exact xs_iret d110_82 rt110
  · refine xs_if_lt (tgt := 80) d110_60 (by decide) (fun hp => absurd hp hc8) (fun _ => ?_)
    refine xs_aload_n d110_63 rfl ?_
    refine xs_iload_n d110_64 rfl ?_
    refine xs_iload_n d110_65 rfl ?_
    obtain ⟨q11, hc10, hf⟩ := lk_b hf
    refine xe_callv1 (as := [xi v3, xi v1]) (st := []) (h2 := q11.2) (d2 := d - 1) d110_66 ky110 ml111 st133 (by decide) cn133 rfl na133 (Nat.le_of_ble_eq_true rfl) (by omega) (f_B_isLetBeAfter_ok (by omega) hc10) ?_
    rcases lk_if hf with ⟨hc12, hf⟩ | ⟨hc12, hf⟩
    · refine xs_if_eq (tgt := 74) d110_69 (by decide) (fun _ => ?_) (fun hn => absurd hc12 hn)
      obtain ⟨v3_13, ev3_13, hf⟩ := lk_let hf
      refine xe_iinc (v := v3_13) (b := -1) (ls2 := [(0, xr 11 (some 0)), (1, xi v1), (3, xi v3_13)]) d110_74 mx110 (by decide) rfl (by decide) ev3_13 rfl ?_
      refine xs_goto (tgt := 59) d110_77 (by decide) ?_
      exact K1 _ _ (Option.some.inj hf).symm
    · refine xs_if_eq (tgt := 74) d110_69 (by decide) (fun hp => absurd hp hc12) (fun _ => ?_)
      refine xs_iload_n d110_72 rfl ?_
      obtain ⟨eR, eH⟩ := K0 _ _ (Option.some.inj hf).symm
      subst eR; subst eH
      exact xs_iret d110_73 rt110
noncomputable def f_B_slack_l59 (v1 : Int32) (v3 : Int32) (h : xH) : Option (Int32 × xH) :=
  whl (fun s => f_B_slack_s59 v1 s.1 s.2) (v3, h)
theorem f_B_slack_l59_ok {g : xG} {l : Launch} {d : Nat} {v1 : Int32} {v3 : Int32} {h : xH} {o : (Int32 × xH)} {R : Option xV} {H' : xH} (hD : 6 ≤ d) (hf : f_B_slack_l59 v1 v3 h = some o) (K0 : ∀ (a : Int32) (h1 : xH), o = (a, h1) → R = some (xi a) ∧ H' = h1) : xEv g l d 110 59 [(0, xr 11 (some 0)), (1, xi v1), (3, xi v3)] [] h R H' := by
  obtain ⟨n, hn⟩ := whl_iff.mp hf
  clear hf
  induction n generalizing v3 h with
  | zero => cases hn
  | succ n ih =>
    obtain ⟨o2, hs, hn⟩ := lk_b (show (f_B_slack_s59 v1 v3 h).bind (fun o => Sum.elim (itn _ n) some o) = some o from hn)
    exact f_B_slack_s59_ok hD hs (fun u0 u1 e => ih (by rw [e] at hn; exact hn)) (fun u0 u1 e => K0 u0 u1 (by rw [e] at hn; exact (Option.some.inj hn).symm))
noncomputable def f_B_slack_e (v1 : Int32) (h : xH) : Option (Int32 × xH) :=
  (f_State_isIn 0 v1 h).bind fun r1 =>
  if r1 = (0 : Int32) then (
  some (((-1 : Int32), h))) else (
  if xib v1 8 then (
  xlet (((h.1 8 1 0) - (h.1 6 0 0)) - (h.2.2.2.1 32 0 (v1).toNatClampNeg)) fun v2_5 =>
  (f_Math_min (300 : Int32) v2_5 h).bind fun r6 =>
  f_B_slack_l59 v1 r6 h) else none)
set_option maxHeartbeats 4000000 in
set_option maxRecDepth 100000 in
theorem f_B_slack_e_ok {g : xG} {l : Launch} {d : Nat} {v1 : Int32} {h : xH} {o : (Int32 × xH)} {R : Option xV} {H' : xH} (hD : 6 ≤ d) (hf : f_B_slack_e v1 h = some o) (K0 : ∀ (a : Int32) (h1 : xH), o = (a, h1) → R = some (xi a) ∧ H' = h1) : xEv g l d 110 0 [(0, xr 11 (some 0)), (1, xi v1)] [] h R H' := by
  unfold f_B_slack_e at hf
  refine xs_aload_n d110_0 rfl ?_
  refine xe_getc (j := 0) d110_1 ky110 fl153 fk11_6 rfl ?_
  refine xe_getc (j := 0) d110_4 ky110 fl98 fk4_1 rfl ?_
  refine xs_iload_n d110_7 rfl ?_
  obtain ⟨r1, hc2, hf⟩ := lk_b hf
  refine xe_callv1 (as := [xi v1]) (st := []) (h2 := h) (d2 := d - 1) d110_8 ky110 ml98 st47 (by decide) cn47 rfl na47 (Nat.le_of_ble_eq_true rfl) (by omega) (f_State_isIn_ok (by omega) hc2) ?_
  rcases lk_if hf with ⟨hc3, hf⟩ | ⟨hc3, hf⟩
  · refine xs_if_ne (tgt := 16) d110_11 (by decide) (fun _ => ?_) (fun hn => absurd hc3 hn)
    refine xs_iconst (v := -1) d110_14 (by decide) ?_
    obtain ⟨eR, eH⟩ := K0 _ _ (Option.some.inj hf).symm
    subst eR; subst eH
    exact xs_iret d110_15 rt110
  · refine xs_if_ne (tgt := 16) d110_11 (by decide) (fun hp => absurd hp hc3) (fun _ => ?_)
    refine xs_aload_n d110_16 rfl ?_
    refine xe_getc (j := 0) d110_17 ky110 fl153 fk11_6 rfl ?_
    refine xe_getc (j := 0) d110_20 ky110 fl96 fk4_0 rfl ?_
    refine xe_geti d110_23 ky110 fl24 fk8_1 ?_
    refine xs_aload_n d110_26 rfl ?_
    refine xe_getc (j := 0) d110_27 ky110 fl153 fk11_6 rfl ?_
    refine xe_getc (j := 0) d110_30 ky110 fl98 fk4_1 rfl ?_
    refine xe_geti d110_33 ky110 fl70 fk6_0 ?_
    refine xs_isub d110_36 ?_
    refine xs_aload_n d110_37 rfl ?_
    refine xe_getc (j := 0) d110_38 ky110 fl153 fk11_6 rfl ?_
    refine xe_getc (j := 0) d110_41 ky110 fl98 fk4_1 rfl ?_
    refine xe_getc (j := 0) d110_44 ky110 fl93 fk6_7 rfl ?_
    refine xs_iload_n d110_47 rfl ?_
    obtain ⟨hin4, hf⟩ := lk_g hf
    refine xe_iald d110_48 (by decide) ak32 hin4 ?_
    refine xs_isub d110_49 ?_
    obtain ⟨v2_5, ev2_5, hf⟩ := lk_let hf
    refine xe_istore_n (v := v2_5) (ls2 := [(0, xr 11 (some 0)), (1, xi v1), (2, xi v2_5)]) d110_50 mx110 (by decide) ev2_5 rfl ?_
    refine xs_sipush (v := 300) d110_51 (by decide) ?_
    refine xs_iload_n d110_54 rfl ?_
    obtain ⟨r6, hc7, hf⟩ := lk_b hf
    refine xe_calls1 (as := [xi (300 : Int32), xi v2_5]) (st := []) (h2 := h) (d2 := d - 1) d110_55 ky110 ml110 st257 rfl na257 (Nat.le_of_ble_eq_true rfl) (by omega) (f_Math_min_ok (by omega) hc7) ?_
    refine xe_istore_n (v := r6) (ls2 := [(0, xr 11 (some 0)), (1, xi v1), (2, xi v2_5), (3, xi r6)]) d110_58 mx110 (by decide) rfl rfl ?_
    refine xs_pick [0, 1, 3] rfl ?_
    exact f_B_slack_l59_ok hD hf K0
noncomputable def f_B_slack (v1 : Int32) (h : xH) : Option (Int32 × xH) := f_B_slack_e v1 h
theorem f_B_slack_ok {g : xG} {l : Launch} {d : Nat} {v1 : Int32} {h : xH} {r : Int32} {h1 : xH} (hD : 6 ≤ d) (hf : f_B_slack v1 h = some (r, h1)) : xC g l d 110 [xr 11 (some 0), xi v1] h (some (xi r)) h1 :=
  xC_of2 (by decide) mx110 (Nat.le_of_ble_eq_true rfl) (f_B_slack_e_ok hD hf (fun _ _ e => by cases e; exact ⟨rfl, rfl⟩))
theorem d111_0 : decode (xcode 111) 0 = .ok (.aload_n 0, 1) := by decide +kernel
theorem d111_1 : decode (xcode 111) 1 = .ok (.getfield 55, 3) := by decide +kernel
theorem d111_4 : decode (xcode 111) 4 = .ok (.getfield 114, 3) := by decide +kernel
theorem d111_7 : decode (xcode 111) 7 = .ok (.getfield 173, 3) := by decide +kernel
theorem d111_10 : decode (xcode 111) 10 = .ok (.ifCond .eq 14, 3) := by decide +kernel
theorem d111_13 : decode (xcode 111) 13 = .ok (.iload_n 1, 1) := by decide +kernel
theorem d111_14 : decode (xcode 111) 14 = .ok (.ifCond .lt 10, 3) := by decide +kernel
theorem d111_17 : decode (xcode 111) 17 = .ok (.iload_n 1, 1) := by decide +kernel
theorem d111_18 : decode (xcode 111) 18 = .ok (.sipush 200, 3) := by decide +kernel
theorem d111_21 : decode (xcode 111) 21 = .ok (.if_icmp .le 5, 3) := by decide +kernel
theorem d111_24 : decode (xcode 111) 24 = .ok (.iconst (-1), 1) := by decide +kernel
theorem d111_25 : decode (xcode 111) 25 = .ok (.ireturn, 1) := by decide +kernel
theorem d111_26 : decode (xcode 111) 26 = .ok (.aload_n 0, 1) := by decide +kernel
theorem d111_27 : decode (xcode 111) 27 = .ok (.invokevirtual 184, 3) := by decide +kernel
theorem d111_30 : decode (xcode 111) 30 = .ok (.iconst 0, 1) := by decide +kernel
theorem d111_31 : decode (xcode 111) 31 = .ok (.istore_n 2, 1) := by decide +kernel
theorem d111_32 : decode (xcode 111) 32 = .ok (.iload_n 2, 1) := by decide +kernel
theorem d111_33 : decode (xcode 111) 33 = .ok (.bipush 100, 2) := by decide +kernel
theorem d111_35 : decode (xcode 111) 35 = .ok (.if_icmp .ge 43, 3) := by decide +kernel
theorem d111_38 : decode (xcode 111) 38 = .ok (.aload_n 0, 1) := by decide +kernel
theorem d111_39 : decode (xcode 111) 39 = .ok (.getfield 77, 3) := by decide +kernel
theorem d111_42 : decode (xcode 111) 42 = .ok (.getfield 190, 3) := by decide +kernel
theorem d111_45 : decode (xcode 111) 45 = .ok (.aload_n 0, 1) := by decide +kernel
theorem d111_46 : decode (xcode 111) 46 = .ok (.getfield 55, 3) := by decide +kernel
theorem d111_49 : decode (xcode 111) 49 = .ok (.getfield 114, 3) := by decide +kernel
theorem d111_52 : decode (xcode 111) 52 = .ok (.getfield 224, 3) := by decide +kernel
theorem d111_55 : decode (xcode 111) 55 = .ok (.invokevirtual 227, 3) := by decide +kernel
theorem d111_58 : decode (xcode 111) 58 = .ok (.iload_n 1, 1) := by decide +kernel
theorem d111_59 : decode (xcode 111) 59 = .ok (.if_icmp .gt 5, 3) := by decide +kernel
theorem d111_62 : decode (xcode 111) 62 = .ok (.iload_n 2, 1) := by decide +kernel
theorem d111_63 : decode (xcode 111) 63 = .ok (.ireturn, 1) := by decide +kernel
theorem d111_64 : decode (xcode 111) 64 = .ok (.aload_n 0, 1) := by decide +kernel
theorem d111_65 : decode (xcode 111) 65 = .ok (.getfield 77, 3) := by decide +kernel
theorem d111_68 : decode (xcode 111) 68 = .ok (.invokevirtual 187, 3) := by decide +kernel
theorem d111_71 : decode (xcode 111) 71 = .ok (.pop, 1) := by decide +kernel
theorem d111_72 : decode (xcode 111) 72 = .ok (.iinc 2 1, 3) := by decide +kernel
theorem d111_75 : decode (xcode 111) 75 = .ok (.goto (-43), 3) := by decide +kernel
theorem d111_78 : decode (xcode 111) 78 = .ok (.aload_n 0, 1) := by decide +kernel
theorem d111_79 : decode (xcode 111) 79 = .ok (.getfield 77, 3) := by decide +kernel
theorem d111_82 : decode (xcode 111) 82 = .ok (.getfield 190, 3) := by decide +kernel
theorem d111_85 : decode (xcode 111) 85 = .ok (.aload_n 0, 1) := by decide +kernel
theorem d111_86 : decode (xcode 111) 86 = .ok (.getfield 55, 3) := by decide +kernel
theorem d111_89 : decode (xcode 111) 89 = .ok (.getfield 114, 3) := by decide +kernel
theorem d111_92 : decode (xcode 111) 92 = .ok (.getfield 224, 3) := by decide +kernel
theorem d111_95 : decode (xcode 111) 95 = .ok (.invokevirtual 227, 3) := by decide +kernel
theorem d111_98 : decode (xcode 111) 98 = .ok (.iload_n 1, 1) := by decide +kernel
theorem d111_99 : decode (xcode 111) 99 = .ok (.if_icmp .gt 8, 3) := by decide +kernel
theorem d111_102 : decode (xcode 111) 102 = .ok (.bipush 100, 2) := by decide +kernel
theorem d111_104 : decode (xcode 111) 104 = .ok (.goto 5, 3) := by decide +kernel
theorem d111_107 : decode (xcode 111) 107 = .ok (.bipush (-2), 2) := by decide +kernel
theorem d111_109 : decode (xcode 111) 109 = .ok (.ireturn, 1) := by decide +kernel
noncomputable def f_B_light_b78 (v1 : Int32) (h : xH) : Option (Int32 × xH) :=
  (f_State_load 25 (h.1 8 2 0) h).bind fun r8 =>
  if v1 < r8 then (
  some (((-2 : Int32), h))) else (
  some (((100 : Int32), h)))
set_option maxHeartbeats 4000000 in
set_option maxRecDepth 100000 in
theorem f_B_light_b78_ok {g : xG} {l : Launch} {d : Nat} {v1 : Int32} {h : xH} {o : (Int32 × xH)} {R : Option xV} {H' : xH} (hD : 5 ≤ d) (hf : f_B_light_b78 v1 h = some o) (K0 : ∀ (a : Int32) (h1 : xH), o = (a, h1) → R = some (xi a) ∧ H' = h1) : xEv g l d 111 78 [(0, xr 11 (some 0)), (1, xi v1)] [] h R H' := by
  unfold f_B_light_b78 at hf
  refine xs_aload_n d111_78 rfl ?_
  refine xe_getc (j := 0) d111_79 ky111 fl157 fk11_10 rfl ?_
  refine xe_getc (j := 25) d111_82 ky111 fl112 fk10_0 rfl ?_
  refine xs_aload_n d111_85 rfl ?_
  refine xe_getc (j := 0) d111_86 ky111 fl153 fk11_6 rfl ?_
  refine xe_getc (j := 0) d111_89 ky111 fl96 fk4_0 rfl ?_
  refine xe_geti d111_92 ky111 fl28 fk8_2 ?_
  obtain ⟨r8, hc9, hf⟩ := lk_b hf
  refine xe_callv1 (as := [xi (h.1 8 2 0)]) (st := []) (h2 := h) (d2 := d - 1) d111_95 ky111 ml104 st52 (by decide) cn52 rfl na52 (Nat.le_of_ble_eq_true rfl) (by omega) (f_State_load_ok (by omega) hc9) ?_
  refine xs_iload_n d111_98 rfl ?_
  rcases lk_if hf with ⟨hc10, hf⟩ | ⟨hc10, hf⟩
  · refine xs_icmp_gt (tgt := 107) d111_99 (by decide) (fun _ => ?_) (fun hn => absurd hc10 hn)
    refine xs_bipush (v := -2) d111_107 (by decide) ?_
    obtain ⟨eR, eH⟩ := K0 _ _ (Option.some.inj hf).symm
    subst eR; subst eH
    exact xs_iret d111_109 rt111
  · refine xs_icmp_gt (tgt := 107) d111_99 (by decide) (fun hp => absurd hp hc10) (fun _ => ?_)
    refine xs_bipush (v := 100) d111_102 (by decide) ?_
    refine xs_goto (tgt := 109) d111_104 (by decide) ?_
    obtain ⟨eR, eH⟩ := K0 _ _ (Option.some.inj hf).symm
    subst eR; subst eH
    exact xs_iret d111_109 rt111
noncomputable def f_B_light_s32 (v1 : Int32) (v2 : Int32) (h : xH) : Option ((Int32 × xH) ⊕ (Int32 × xH)) :=
  if (100 : Int32) ≤ v2 then (
  xup (f_B_light_b78 v1 h)) else (
  (f_State_load 25 (h.1 8 2 0) h).bind fun r11 =>
  if v1 < r11 then (
  (f_Walk_goOn h).bind fun q16 =>
  xlet (v2 + (1 : Int32)) fun v2_17 =>
  some (Sum.inl (v2_17, q16.2))) else (
  some (Sum.inr ((v2, h)))))
set_option maxHeartbeats 4000000 in
set_option maxRecDepth 100000 in
theorem f_B_light_s32_ok {g : xG} {l : Launch} {d : Nat} {v1 : Int32} {v2 : Int32} {h : xH} {o : ((Int32 × xH) ⊕ (Int32 × xH))} {R : Option xV} {H' : xH} (hD : 5 ≤ d) (hf : f_B_light_s32 v1 v2 h = some o) (K1 : ∀ (w2 : Int32) (h1 : xH), o = Sum.inl (w2, h1) → xEv g l d 111 32 [(0, xr 11 (some 0)), (1, xi v1), (2, xi w2)] [] h1 R H') (K0 : ∀ (a : Int32) (h1 : xH), o = Sum.inr ((a, h1)) → R = some (xi a) ∧ H' = h1) : xEv g l d 111 32 [(0, xr 11 (some 0)), (1, xi v1), (2, xi v2)] [] h R H' := by
  unfold f_B_light_s32 at hf
  refine xs_iload_n d111_32 rfl ?_
  refine xs_bipush (v := 100) d111_33 (by decide) ?_
  rcases lk_if hf with ⟨hc7, hf⟩ | ⟨hc7, hf⟩
  · refine xs_icmp_ge (tgt := 78) d111_35 (by decide) (fun _ => ?_) (fun hn => absurd hc7 hn)
    refine xs_pick [0, 1] rfl ?_
    obtain ⟨x0, hf, ex0⟩ := lk_up hf
    exact f_B_light_b78_ok hD hf (fun u0 u1 e => K0 u0 u1 (ex0.trans (congrArg Sum.inr e)))
  · refine xs_icmp_ge (tgt := 78) d111_35 (by decide) (fun hp => absurd hp hc7) (fun _ => ?_)
    refine xs_aload_n d111_38 rfl ?_
    refine xe_getc (j := 0) d111_39 ky111 fl157 fk11_10 rfl ?_
    refine xe_getc (j := 25) d111_42 ky111 fl112 fk10_0 rfl ?_
    refine xs_aload_n d111_45 rfl ?_
    refine xe_getc (j := 0) d111_46 ky111 fl153 fk11_6 rfl ?_
    refine xe_getc (j := 0) d111_49 ky111 fl96 fk4_0 rfl ?_
    refine xe_geti d111_52 ky111 fl28 fk8_2 ?_
    obtain ⟨r11, hc12, hf⟩ := lk_b hf
    refine xe_callv1 (as := [xi (h.1 8 2 0)]) (st := []) (h2 := h) (d2 := d - 1) d111_55 ky111 ml104 st52 (by decide) cn52 rfl na52 (Nat.le_of_ble_eq_true rfl) (by omega) (f_State_load_ok (by omega) hc12) ?_
    refine xs_iload_n d111_58 rfl ?_
    rcases lk_if hf with ⟨hc13, hf⟩ | ⟨hc13, hf⟩
    · refine xs_icmp_gt (tgt := 64) d111_59 (by decide) (fun _ => ?_) (fun hn => absurd hc13 hn)
      refine xs_aload_n d111_64 rfl ?_
      refine xe_getc (j := 0) d111_65 ky111 fl157 fk11_10 rfl ?_
      obtain ⟨q16, hc15, hf⟩ := lk_b hf
      refine xe_callv1 (as := []) (st := []) (h2 := q16.2) (d2 := d - 1) d111_68 ky111 ml71 st87 (by decide) cn87 rfl na87 (Nat.le_of_ble_eq_true rfl) (by omega) (f_Walk_goOn_ok (by omega) hc15) ?_
      refine xs_pop d111_71 rfl ?_
      obtain ⟨v2_17, ev2_17, hf⟩ := lk_let hf
      refine xe_iinc (v := v2_17) (b := 1) (ls2 := [(0, xr 11 (some 0)), (1, xi v1), (2, xi v2_17)]) d111_72 mx111 (by decide) rfl (by decide) ev2_17 rfl ?_
      refine xs_goto (tgt := 32) d111_75 (by decide) ?_
      exact K1 _ _ (Option.some.inj hf).symm
    · refine xs_icmp_gt (tgt := 64) d111_59 (by decide) (fun hp => absurd hp hc13) (fun _ => ?_)
      refine xs_iload_n d111_62 rfl ?_
      obtain ⟨eR, eH⟩ := K0 _ _ (Option.some.inj hf).symm
      subst eR; subst eH
      exact xs_iret d111_63 rt111
noncomputable def f_B_light_l32 (v1 : Int32) (v2 : Int32) (h : xH) : Option (Int32 × xH) :=
  whl (fun s => f_B_light_s32 v1 s.1 s.2) (v2, h)
theorem f_B_light_l32_ok {g : xG} {l : Launch} {d : Nat} {v1 : Int32} {v2 : Int32} {h : xH} {o : (Int32 × xH)} {R : Option xV} {H' : xH} (hD : 5 ≤ d) (hf : f_B_light_l32 v1 v2 h = some o) (K0 : ∀ (a : Int32) (h1 : xH), o = (a, h1) → R = some (xi a) ∧ H' = h1) : xEv g l d 111 32 [(0, xr 11 (some 0)), (1, xi v1), (2, xi v2)] [] h R H' := by
  obtain ⟨n, hn⟩ := whl_iff.mp hf
  clear hf
  induction n generalizing v2 h with
  | zero => cases hn
  | succ n ih =>
    obtain ⟨o2, hs, hn⟩ := lk_b (show (f_B_light_s32 v1 v2 h).bind (fun o => Sum.elim (itn _ n) some o) = some o from hn)
    exact f_B_light_s32_ok hD hs (fun u0 u1 e => ih (by rw [e] at hn; exact hn)) (fun u0 u1 e => K0 u0 u1 (by rw [e] at hn; exact (Option.some.inj hn).symm))
noncomputable def f_B_light_e (v1 : Int32) (h : xH) : Option (Int32 × xH) :=
  if (h.1 8 0 0) = (0 : Int32) then (
  some (((-1 : Int32), h))) else (
  if v1 < (0 : Int32) then (
  some (((-1 : Int32), h))) else (
  if v1 ≤ (200 : Int32) then (
  (f_B_startNow h).bind fun h6 =>
  f_B_light_l32 v1 (0 : Int32) h6) else (
  some (((-1 : Int32), h)))))
set_option maxHeartbeats 4000000 in
set_option maxRecDepth 100000 in
theorem f_B_light_e_ok {g : xG} {l : Launch} {d : Nat} {v1 : Int32} {h : xH} {o : (Int32 × xH)} {R : Option xV} {H' : xH} (hD : 5 ≤ d) (hf : f_B_light_e v1 h = some o) (K0 : ∀ (a : Int32) (h1 : xH), o = (a, h1) → R = some (xi a) ∧ H' = h1) : xEv g l d 111 0 [(0, xr 11 (some 0)), (1, xi v1)] [] h R H' := by
  unfold f_B_light_e at hf
  refine xs_aload_n d111_0 rfl ?_
  refine xe_getc (j := 0) d111_1 ky111 fl153 fk11_6 rfl ?_
  refine xe_getc (j := 0) d111_4 ky111 fl96 fk4_0 rfl ?_
  refine xe_geti d111_7 ky111 fl19 fk8_0 ?_
  rcases lk_if hf with ⟨hc1, hf⟩ | ⟨hc1, hf⟩
  · refine xs_if_eq (tgt := 24) d111_10 (by decide) (fun _ => ?_) (fun hn => absurd hc1 hn)
    refine xs_iconst (v := -1) d111_24 (by decide) ?_
    obtain ⟨eR, eH⟩ := K0 _ _ (Option.some.inj hf).symm
    subst eR; subst eH
    exact xs_iret d111_25 rt111
  · refine xs_if_eq (tgt := 24) d111_10 (by decide) (fun hp => absurd hp hc1) (fun _ => ?_)
    refine xs_iload_n d111_13 rfl ?_
    rcases lk_if hf with ⟨hc2, hf⟩ | ⟨hc2, hf⟩
    · refine xs_if_lt (tgt := 24) d111_14 (by decide) (fun _ => ?_) (fun hn => absurd hc2 hn)
      refine xs_iconst (v := -1) d111_24 (by decide) ?_
      obtain ⟨eR, eH⟩ := K0 _ _ (Option.some.inj hf).symm
      subst eR; subst eH
      exact xs_iret d111_25 rt111
    · refine xs_if_lt (tgt := 24) d111_14 (by decide) (fun hp => absurd hp hc2) (fun _ => ?_)
      refine xs_iload_n d111_17 rfl ?_
      refine xs_sipush (v := 200) d111_18 (by decide) ?_
      rcases lk_if hf with ⟨hc3, hf⟩ | ⟨hc3, hf⟩
      · refine xs_icmp_le (tgt := 26) d111_21 (by decide) (fun _ => ?_) (fun hn => absurd hc3 hn)
        refine xs_aload_n d111_26 rfl ?_
        obtain ⟨h6, hc5, hf⟩ := lk_b hf
        refine xe_callv0 (as := []) (st := []) (h2 := h6) (d2 := d - 1) d111_27 ky111 ml67 st131 (by decide) cn131 rfl na131 (Nat.le_of_ble_eq_true rfl) (by omega) (f_B_startNow_ok (by omega) hc5) ?_
        refine xs_iconst (v := 0) d111_30 (by decide) ?_
        refine xe_istore_n (v := (0 : Int32)) (ls2 := [(0, xr 11 (some 0)), (1, xi v1), (2, xi (0 : Int32))]) d111_31 mx111 (by decide) rfl rfl ?_
        exact f_B_light_l32_ok hD hf K0
      · refine xs_icmp_le (tgt := 26) d111_21 (by decide) (fun hp => absurd hp hc3) (fun _ => ?_)
        refine xs_iconst (v := -1) d111_24 (by decide) ?_
        obtain ⟨eR, eH⟩ := K0 _ _ (Option.some.inj hf).symm
        subst eR; subst eH
        exact xs_iret d111_25 rt111
noncomputable def f_B_light (v1 : Int32) (h : xH) : Option (Int32 × xH) := f_B_light_e v1 h
theorem f_B_light_ok {g : xG} {l : Launch} {d : Nat} {v1 : Int32} {h : xH} {r : Int32} {h1 : xH} (hD : 5 ≤ d) (hf : f_B_light v1 h = some (r, h1)) : xC g l d 111 [xr 11 (some 0), xi v1] h (some (xi r)) h1 :=
  xC_of2 (by decide) mx111 (Nat.le_of_ble_eq_true rfl) (f_B_light_e_ok hD hf (fun _ _ e => by cases e; exact ⟨rfl, rfl⟩))
theorem d112_0 : decode (xcode 112) 0 = .ok (.aload_n 0, 1) := by decide +kernel
theorem d112_1 : decode (xcode 112) 1 = .ok (.getfield 55, 3) := by decide +kernel
theorem d112_4 : decode (xcode 112) 4 = .ok (.getfield 114, 3) := by decide +kernel
theorem d112_7 : decode (xcode 112) 7 = .ok (.getfield 173, 3) := by decide +kernel
theorem d112_10 : decode (xcode 112) 10 = .ok (.ifCond .eq 15, 3) := by decide +kernel
theorem d112_13 : decode (xcode 112) 13 = .ok (.iload_n 1, 1) := by decide +kernel
theorem d112_14 : decode (xcode 112) 14 = .ok (.bipush (-2), 2) := by decide +kernel
theorem d112_16 : decode (xcode 112) 16 = .ok (.if_icmp .lt 9, 3) := by decide +kernel
theorem d112_19 : decode (xcode 112) 19 = .ok (.iload_n 1, 1) := by decide +kernel
theorem d112_20 : decode (xcode 112) 20 = .ok (.bipush 8, 2) := by decide +kernel
theorem d112_22 : decode (xcode 112) 22 = .ok (.if_icmp .lt 6, 3) := by decide +kernel
theorem d112_25 : decode (xcode 112) 25 = .ok (.bipush (-3), 2) := by decide +kernel
theorem d112_27 : decode (xcode 112) 27 = .ok (.ireturn, 1) := by decide +kernel
theorem d112_28 : decode (xcode 112) 28 = .ok (.aload_n 0, 1) := by decide +kernel
theorem d112_29 : decode (xcode 112) 29 = .ok (.getfield 84, 3) := by decide +kernel
theorem d112_32 : decode (xcode 112) 32 = .ok (.aload_n 0, 1) := by decide +kernel
theorem d112_33 : decode (xcode 112) 33 = .ok (.getfield 55, 3) := by decide +kernel
theorem d112_36 : decode (xcode 112) 36 = .ok (.getfield 114, 3) := by decide +kernel
theorem d112_39 : decode (xcode 112) 39 = .ok (.aload_n 0, 1) := by decide +kernel
theorem d112_40 : decode (xcode 112) 40 = .ok (.getfield 55, 3) := by decide +kernel
theorem d112_43 : decode (xcode 112) 43 = .ok (.getfield 121, 3) := by decide +kernel
theorem d112_46 : decode (xcode 112) 46 = .ok (.invokevirtual 251, 3) := by decide +kernel
theorem d112_49 : decode (xcode 112) 49 = .ok (.iload_n 1, 1) := by decide +kernel
theorem d112_50 : decode (xcode 112) 50 = .ok (.iconst (-1), 1) := by decide +kernel
theorem d112_51 : decode (xcode 112) 51 = .ok (.if_icmp .ne 11, 3) := by decide +kernel
theorem d112_54 : decode (xcode 112) 54 = .ok (.aload_n 0, 1) := by decide +kernel
theorem d112_55 : decode (xcode 112) 55 = .ok (.getfield 84, 3) := by decide +kernel
theorem d112_58 : decode (xcode 112) 58 = .ok (.getfield 255, 3) := by decide +kernel
theorem d112_61 : decode (xcode 112) 61 = .ok (.ireturn, 1) := by decide +kernel
theorem d112_62 : decode (xcode 112) 62 = .ok (.iload_n 1, 1) := by decide +kernel
theorem d112_63 : decode (xcode 112) 63 = .ok (.bipush (-2), 2) := by decide +kernel
theorem d112_65 : decode (xcode 112) 65 = .ok (.if_icmp .ne 11, 3) := by decide +kernel
theorem d112_68 : decode (xcode 112) 68 = .ok (.aload_n 0, 1) := by decide +kernel
theorem d112_69 : decode (xcode 112) 69 = .ok (.getfield 84, 3) := by decide +kernel
theorem d112_72 : decode (xcode 112) 72 = .ok (.getfield 258, 3) := by decide +kernel
theorem d112_75 : decode (xcode 112) 75 = .ok (.ireturn, 1) := by decide +kernel
theorem d112_76 : decode (xcode 112) 76 = .ok (.iload_n 1, 1) := by decide +kernel
theorem d112_77 : decode (xcode 112) 77 = .ok (.aload_n 0, 1) := by decide +kernel
theorem d112_78 : decode (xcode 112) 78 = .ok (.getfield 84, 3) := by decide +kernel
theorem d112_81 : decode (xcode 112) 81 = .ok (.getfield 261, 3) := by decide +kernel
theorem d112_84 : decode (xcode 112) 84 = .ok (.if_icmp .ge 15, 3) := by decide +kernel
theorem d112_87 : decode (xcode 112) 87 = .ok (.aload_n 0, 1) := by decide +kernel
theorem d112_88 : decode (xcode 112) 88 = .ok (.getfield 84, 3) := by decide +kernel
theorem d112_91 : decode (xcode 112) 91 = .ok (.getfield 264, 3) := by decide +kernel
theorem d112_94 : decode (xcode 112) 94 = .ok (.iload_n 1, 1) := by decide +kernel
theorem d112_95 : decode (xcode 112) 95 = .ok (.iaload, 1) := by decide +kernel
theorem d112_96 : decode (xcode 112) 96 = .ok (.goto 5, 3) := by decide +kernel
theorem d112_99 : decode (xcode 112) 99 = .ok (.bipush (-2), 2) := by decide +kernel
theorem d112_101 : decode (xcode 112) 101 = .ok (.ireturn, 1) := by decide +kernel
noncomputable def f_B_order_e (v1 : Int32) (h : xH) : Option (Int32 × xH) :=
  if (h.1 8 0 0) = (0 : Int32) then (
  some (((-3 : Int32), h))) else (
  if v1 < (-2 : Int32) then (
  some (((-3 : Int32), h))) else (
  if v1 < (8 : Int32) then (
  (f_Sets_findRow 0 0 h).bind fun h6 =>
  if v1 = (-1 : Int32) then (
  some ((h6.1 5 2 0, h6))) else (
  if v1 = (-2 : Int32) then (
  some ((h6.1 5 3 0, h6))) else (
  if (h6.1 5 1 0) ≤ v1 then (
  some (((-2 : Int32), h6))) else (
  if xib v1 8 then (
  some ((h6.2.2.2.1 22 0 (v1).toNatClampNeg, h6))) else none)))) else (
  some (((-3 : Int32), h)))))
set_option maxHeartbeats 4000000 in
set_option maxRecDepth 100000 in
theorem f_B_order_e_ok {g : xG} {l : Launch} {d : Nat} {v1 : Int32} {h : xH} {o : (Int32 × xH)} {R : Option xV} {H' : xH} (hD : 4 ≤ d) (hf : f_B_order_e v1 h = some o) (K0 : ∀ (a : Int32) (h1 : xH), o = (a, h1) → R = some (xi a) ∧ H' = h1) : xEv g l d 112 0 [(0, xr 11 (some 0)), (1, xi v1)] [] h R H' := by
  unfold f_B_order_e at hf
  refine xs_aload_n d112_0 rfl ?_
  refine xe_getc (j := 0) d112_1 ky112 fl153 fk11_6 rfl ?_
  refine xe_getc (j := 0) d112_4 ky112 fl96 fk4_0 rfl ?_
  refine xe_geti d112_7 ky112 fl19 fk8_0 ?_
  rcases lk_if hf with ⟨hc1, hf⟩ | ⟨hc1, hf⟩
  · refine xs_if_eq (tgt := 25) d112_10 (by decide) (fun _ => ?_) (fun hn => absurd hc1 hn)
    refine xs_bipush (v := -3) d112_25 (by decide) ?_
    obtain ⟨eR, eH⟩ := K0 _ _ (Option.some.inj hf).symm
    subst eR; subst eH
    exact xs_iret d112_27 rt112
  · refine xs_if_eq (tgt := 25) d112_10 (by decide) (fun hp => absurd hp hc1) (fun _ => ?_)
    refine xs_iload_n d112_13 rfl ?_
    refine xs_bipush (v := -2) d112_14 (by decide) ?_
    rcases lk_if hf with ⟨hc2, hf⟩ | ⟨hc2, hf⟩
    · refine xs_icmp_lt (tgt := 25) d112_16 (by decide) (fun _ => ?_) (fun hn => absurd hc2 hn)
      refine xs_bipush (v := -3) d112_25 (by decide) ?_
      obtain ⟨eR, eH⟩ := K0 _ _ (Option.some.inj hf).symm
      subst eR; subst eH
      exact xs_iret d112_27 rt112
    · refine xs_icmp_lt (tgt := 25) d112_16 (by decide) (fun hp => absurd hp hc2) (fun _ => ?_)
      refine xs_iload_n d112_19 rfl ?_
      refine xs_bipush (v := 8) d112_20 (by decide) ?_
      rcases lk_if hf with ⟨hc3, hf⟩ | ⟨hc3, hf⟩
      · refine xs_icmp_lt (tgt := 28) d112_22 (by decide) (fun _ => ?_) (fun hn => absurd hc3 hn)
        refine xs_aload_n d112_28 rfl ?_
        refine xe_getc (j := 0) d112_29 ky112 fl158 fk11_11 rfl ?_
        refine xs_aload_n d112_32 rfl ?_
        refine xe_getc (j := 0) d112_33 ky112 fl153 fk11_6 rfl ?_
        refine xe_getc (j := 0) d112_36 ky112 fl96 fk4_0 rfl ?_
        refine xs_aload_n d112_39 rfl ?_
        refine xe_getc (j := 0) d112_40 ky112 fl153 fk11_6 rfl ?_
        refine xe_getc (j := 0) d112_43 ky112 fl98 fk4_1 rfl ?_
        obtain ⟨h6, hc5, hf⟩ := lk_b hf
        refine xe_callv0 (as := [xr 8 (some 0), xr 6 (some 0)]) (st := []) (h2 := h6) (d2 := d - 1) d112_46 ky112 ml114 st30 (by decide) cn30 rfl na30 (Nat.le_of_ble_eq_true rfl) (by omega) (f_Sets_findRow_ok (by omega) hc5) ?_
        refine xs_iload_n d112_49 rfl ?_
        refine xs_iconst (v := -1) d112_50 (by decide) ?_
        rcases lk_if hf with ⟨hc7, hf⟩ | ⟨hc7, hf⟩
        · refine xs_icmp_ne (tgt := 62) d112_51 (by decide) (fun _ => ?_) (fun hn => absurd hc7 hn)
          refine xs_aload_n d112_54 rfl ?_
          refine xe_getc (j := 0) d112_55 ky112 fl158 fk11_11 rfl ?_
          refine xe_geti d112_58 ky112 fl123 fk5_2 ?_
          obtain ⟨eR, eH⟩ := K0 _ _ (Option.some.inj hf).symm
          subst eR; subst eH
          exact xs_iret d112_61 rt112
        · refine xs_icmp_ne (tgt := 62) d112_51 (by decide) (fun hp => absurd hp hc7) (fun _ => ?_)
          refine xs_iload_n d112_62 rfl ?_
          refine xs_bipush (v := -2) d112_63 (by decide) ?_
          rcases lk_if hf with ⟨hc8, hf⟩ | ⟨hc8, hf⟩
          · refine xs_icmp_ne (tgt := 76) d112_65 (by decide) (fun _ => ?_) (fun hn => absurd hc8 hn)
            refine xs_aload_n d112_68 rfl ?_
            refine xe_getc (j := 0) d112_69 ky112 fl158 fk11_11 rfl ?_
            refine xe_geti d112_72 ky112 fl125 fk5_3 ?_
            obtain ⟨eR, eH⟩ := K0 _ _ (Option.some.inj hf).symm
            subst eR; subst eH
            exact xs_iret d112_75 rt112
          · refine xs_icmp_ne (tgt := 76) d112_65 (by decide) (fun hp => absurd hp hc8) (fun _ => ?_)
            refine xs_iload_n d112_76 rfl ?_
            refine xs_aload_n d112_77 rfl ?_
            refine xe_getc (j := 0) d112_78 ky112 fl158 fk11_11 rfl ?_
            refine xe_geti d112_81 ky112 fl121 fk5_1 ?_
            rcases lk_if hf with ⟨hc9, hf⟩ | ⟨hc9, hf⟩
            · refine xs_icmp_ge (tgt := 99) d112_84 (by decide) (fun _ => ?_) (fun hn => absurd hc9 hn)
              refine xs_bipush (v := -2) d112_99 (by decide) ?_
              obtain ⟨eR, eH⟩ := K0 _ _ (Option.some.inj hf).symm
              subst eR; subst eH
              exact xs_iret d112_101 rt112
            · refine xs_icmp_ge (tgt := 99) d112_84 (by decide) (fun hp => absurd hp hc9) (fun _ => ?_)
              refine xs_aload_n d112_87 rfl ?_
              refine xe_getc (j := 0) d112_88 ky112 fl158 fk11_11 rfl ?_
              refine xe_getc (j := 0) d112_91 ky112 fl119 fk5_0 rfl ?_
              refine xs_iload_n d112_94 rfl ?_
              obtain ⟨hin10, hf⟩ := lk_g hf
              refine xe_iald d112_95 (by decide) ak22 hin10 ?_
              refine xs_goto (tgt := 101) d112_96 (by decide) ?_
              obtain ⟨eR, eH⟩ := K0 _ _ (Option.some.inj hf).symm
              subst eR; subst eH
              exact xs_iret d112_101 rt112
      · refine xs_icmp_lt (tgt := 28) d112_22 (by decide) (fun hp => absurd hp hc3) (fun _ => ?_)
        refine xs_bipush (v := -3) d112_25 (by decide) ?_
        obtain ⟨eR, eH⟩ := K0 _ _ (Option.some.inj hf).symm
        subst eR; subst eH
        exact xs_iret d112_27 rt112
noncomputable def f_B_order (v1 : Int32) (h : xH) : Option (Int32 × xH) := f_B_order_e v1 h
theorem f_B_order_ok {g : xG} {l : Launch} {d : Nat} {v1 : Int32} {h : xH} {r : Int32} {h1 : xH} (hD : 4 ≤ d) (hf : f_B_order v1 h = some (r, h1)) : xC g l d 112 [xr 11 (some 0), xi v1] h (some (xi r)) h1 :=
  xC_of2 (by decide) mx112 (Nat.le_of_ble_eq_true rfl) (f_B_order_e_ok hD hf (fun _ _ e => by cases e; exact ⟨rfl, rfl⟩))
theorem d113_0 : decode (xcode 113) 0 = .ok (.aload_n 0, 1) := by decide +kernel
theorem d113_1 : decode (xcode 113) 1 = .ok (.getfield 55, 3) := by decide +kernel
theorem d113_4 : decode (xcode 113) 4 = .ok (.getfield 114, 3) := by decide +kernel
theorem d113_7 : decode (xcode 113) 7 = .ok (.getfield 173, 3) := by decide +kernel
theorem d113_10 : decode (xcode 113) 10 = .ok (.ifCond .eq 12, 3) := by decide +kernel
theorem d113_13 : decode (xcode 113) 13 = .ok (.iload_n 1, 1) := by decide +kernel
theorem d113_14 : decode (xcode 113) 14 = .ok (.ifCond .lt 8, 3) := by decide +kernel
theorem d113_17 : decode (xcode 113) 17 = .ok (.iload_n 1, 1) := by decide +kernel
theorem d113_18 : decode (xcode 113) 18 = .ok (.iconst 1, 1) := by decide +kernel
theorem d113_19 : decode (xcode 113) 19 = .ok (.if_icmp .le 5, 3) := by decide +kernel
theorem d113_22 : decode (xcode 113) 22 = .ok (.iconst (-1), 1) := by decide +kernel
theorem d113_23 : decode (xcode 113) 23 = .ok (.ireturn, 1) := by decide +kernel
theorem d113_24 : decode (xcode 113) 24 = .ok (.aload_n 0, 1) := by decide +kernel
theorem d113_25 : decode (xcode 113) 25 = .ok (.getfield 84, 3) := by decide +kernel
theorem d113_28 : decode (xcode 113) 28 = .ok (.aload_n 0, 1) := by decide +kernel
theorem d113_29 : decode (xcode 113) 29 = .ok (.getfield 55, 3) := by decide +kernel
theorem d113_32 : decode (xcode 113) 32 = .ok (.getfield 121, 3) := by decide +kernel
theorem d113_35 : decode (xcode 113) 35 = .ok (.invokevirtual 267, 3) := by decide +kernel
theorem d113_38 : decode (xcode 113) 38 = .ok (.iload_n 1, 1) := by decide +kernel
theorem d113_39 : decode (xcode 113) 39 = .ok (.ifCond .ne 13, 3) := by decide +kernel
theorem d113_42 : decode (xcode 113) 42 = .ok (.aload_n 0, 1) := by decide +kernel
theorem d113_43 : decode (xcode 113) 43 = .ok (.getfield 84, 3) := by decide +kernel
theorem d113_46 : decode (xcode 113) 46 = .ok (.getfield 270, 3) := by decide +kernel
theorem d113_49 : decode (xcode 113) 49 = .ok (.goto 10, 3) := by decide +kernel
theorem d113_52 : decode (xcode 113) 52 = .ok (.aload_n 0, 1) := by decide +kernel
theorem d113_53 : decode (xcode 113) 53 = .ok (.getfield 84, 3) := by decide +kernel
theorem d113_56 : decode (xcode 113) 56 = .ok (.getfield 273, 3) := by decide +kernel
theorem d113_59 : decode (xcode 113) 59 = .ok (.ireturn, 1) := by decide +kernel
noncomputable def f_B_chain_e (v1 : Int32) (h : xH) : Option (Int32 × xH) :=
  if (h.1 8 0 0) = (0 : Int32) then (
  some (((-1 : Int32), h))) else (
  if v1 < (0 : Int32) then (
  some (((-1 : Int32), h))) else (
  if v1 ≤ (1 : Int32) then (
  (f_Sets_findChain 0 h).bind fun h6 =>
  if v1 = (0 : Int32) then (
  some ((h6.1 5 4 0, h6))) else (
  some ((h6.1 5 5 0, h6)))) else (
  some (((-1 : Int32), h)))))
set_option maxHeartbeats 4000000 in
set_option maxRecDepth 100000 in
theorem f_B_chain_e_ok {g : xG} {l : Launch} {d : Nat} {v1 : Int32} {h : xH} {o : (Int32 × xH)} {R : Option xV} {H' : xH} (hD : 4 ≤ d) (hf : f_B_chain_e v1 h = some o) (K0 : ∀ (a : Int32) (h1 : xH), o = (a, h1) → R = some (xi a) ∧ H' = h1) : xEv g l d 113 0 [(0, xr 11 (some 0)), (1, xi v1)] [] h R H' := by
  unfold f_B_chain_e at hf
  refine xs_aload_n d113_0 rfl ?_
  refine xe_getc (j := 0) d113_1 ky113 fl153 fk11_6 rfl ?_
  refine xe_getc (j := 0) d113_4 ky113 fl96 fk4_0 rfl ?_
  refine xe_geti d113_7 ky113 fl19 fk8_0 ?_
  rcases lk_if hf with ⟨hc1, hf⟩ | ⟨hc1, hf⟩
  · refine xs_if_eq (tgt := 22) d113_10 (by decide) (fun _ => ?_) (fun hn => absurd hc1 hn)
    refine xs_iconst (v := -1) d113_22 (by decide) ?_
    obtain ⟨eR, eH⟩ := K0 _ _ (Option.some.inj hf).symm
    subst eR; subst eH
    exact xs_iret d113_23 rt113
  · refine xs_if_eq (tgt := 22) d113_10 (by decide) (fun hp => absurd hp hc1) (fun _ => ?_)
    refine xs_iload_n d113_13 rfl ?_
    rcases lk_if hf with ⟨hc2, hf⟩ | ⟨hc2, hf⟩
    · refine xs_if_lt (tgt := 22) d113_14 (by decide) (fun _ => ?_) (fun hn => absurd hc2 hn)
      refine xs_iconst (v := -1) d113_22 (by decide) ?_
      obtain ⟨eR, eH⟩ := K0 _ _ (Option.some.inj hf).symm
      subst eR; subst eH
      exact xs_iret d113_23 rt113
    · refine xs_if_lt (tgt := 22) d113_14 (by decide) (fun hp => absurd hp hc2) (fun _ => ?_)
      refine xs_iload_n d113_17 rfl ?_
      refine xs_iconst (v := 1) d113_18 (by decide) ?_
      rcases lk_if hf with ⟨hc3, hf⟩ | ⟨hc3, hf⟩
      · refine xs_icmp_le (tgt := 24) d113_19 (by decide) (fun _ => ?_) (fun hn => absurd hc3 hn)
        refine xs_aload_n d113_24 rfl ?_
        refine xe_getc (j := 0) d113_25 ky113 fl158 fk11_11 rfl ?_
        refine xs_aload_n d113_28 rfl ?_
        refine xe_getc (j := 0) d113_29 ky113 fl153 fk11_6 rfl ?_
        refine xe_getc (j := 0) d113_32 ky113 fl98 fk4_1 rfl ?_
        obtain ⟨h6, hc5, hf⟩ := lk_b hf
        refine xe_callv0 (as := [xr 6 (some 0)]) (st := []) (h2 := h6) (d2 := d - 1) d113_35 ky113 ml126 st37 (by decide) cn37 rfl na37 (Nat.le_of_ble_eq_true rfl) (by omega) (f_Sets_findChain_ok (by omega) hc5) ?_
        refine xs_iload_n d113_38 rfl ?_
        rcases lk_if hf with ⟨hc7, hf⟩ | ⟨hc7, hf⟩
        · refine xs_if_ne (tgt := 52) d113_39 (by decide) (fun _ => ?_) (fun hn => absurd hc7 hn)
          refine xs_aload_n d113_42 rfl ?_
          refine xe_getc (j := 0) d113_43 ky113 fl158 fk11_11 rfl ?_
          refine xe_geti d113_46 ky113 fl127 fk5_4 ?_
          refine xs_goto (tgt := 59) d113_49 (by decide) ?_
          obtain ⟨eR, eH⟩ := K0 _ _ (Option.some.inj hf).symm
          subst eR; subst eH
          exact xs_iret d113_59 rt113
        · refine xs_if_ne (tgt := 52) d113_39 (by decide) (fun hp => absurd hp hc7) (fun _ => ?_)
          refine xs_aload_n d113_52 rfl ?_
          refine xe_getc (j := 0) d113_53 ky113 fl158 fk11_11 rfl ?_
          refine xe_geti d113_56 ky113 fl129 fk5_5 ?_
          obtain ⟨eR, eH⟩ := K0 _ _ (Option.some.inj hf).symm
          subst eR; subst eH
          exact xs_iret d113_59 rt113
      · refine xs_icmp_le (tgt := 24) d113_19 (by decide) (fun hp => absurd hp hc3) (fun _ => ?_)
        refine xs_iconst (v := -1) d113_22 (by decide) ?_
        obtain ⟨eR, eH⟩ := K0 _ _ (Option.some.inj hf).symm
        subst eR; subst eH
        exact xs_iret d113_23 rt113
noncomputable def f_B_chain (v1 : Int32) (h : xH) : Option (Int32 × xH) := f_B_chain_e v1 h
theorem f_B_chain_ok {g : xG} {l : Launch} {d : Nat} {v1 : Int32} {h : xH} {r : Int32} {h1 : xH} (hD : 4 ≤ d) (hf : f_B_chain v1 h = some (r, h1)) : xC g l d 113 [xr 11 (some 0), xi v1] h (some (xi r)) h1 :=
  xC_of2 (by decide) mx113 (Nat.le_of_ble_eq_true rfl) (f_B_chain_e_ok hD hf (fun _ _ e => by cases e; exact ⟨rfl, rfl⟩))
theorem d114_0 : decode (xcode 114) 0 = .ok (.aload_n 0, 1) := by decide +kernel
theorem d114_1 : decode (xcode 114) 1 = .ok (.getfield 55, 3) := by decide +kernel
theorem d114_4 : decode (xcode 114) 4 = .ok (.getfield 114, 3) := by decide +kernel
theorem d114_7 : decode (xcode 114) 7 = .ok (.getfield 173, 3) := by decide +kernel
theorem d114_10 : decode (xcode 114) 10 = .ok (.ifCond .ne 5, 3) := by decide +kernel
theorem d114_13 : decode (xcode 114) 13 = .ok (.iconst (-1), 1) := by decide +kernel
theorem d114_14 : decode (xcode 114) 14 = .ok (.ireturn, 1) := by decide +kernel
theorem d114_15 : decode (xcode 114) 15 = .ok (.aload_n 0, 1) := by decide +kernel
theorem d114_16 : decode (xcode 114) 16 = .ok (.getfield 84, 3) := by decide +kernel
theorem d114_19 : decode (xcode 114) 19 = .ok (.aload_n 0, 1) := by decide +kernel
theorem d114_20 : decode (xcode 114) 20 = .ok (.getfield 55, 3) := by decide +kernel
theorem d114_23 : decode (xcode 114) 23 = .ok (.getfield 121, 3) := by decide +kernel
theorem d114_26 : decode (xcode 114) 26 = .ok (.getfield 230, 3) := by decide +kernel
theorem d114_29 : decode (xcode 114) 29 = .ok (.aload_n 0, 1) := by decide +kernel
theorem d114_30 : decode (xcode 114) 30 = .ok (.getfield 55, 3) := by decide +kernel
theorem d114_33 : decode (xcode 114) 33 = .ok (.getfield 121, 3) := by decide +kernel
theorem d114_36 : decode (xcode 114) 36 = .ok (.getfield 164, 3) := by decide +kernel
theorem d114_39 : decode (xcode 114) 39 = .ok (.invokevirtual 276, 3) := by decide +kernel
theorem d114_42 : decode (xcode 114) 42 = .ok (.ireturn, 1) := by decide +kernel
noncomputable def f_B_rings_e (h : xH) : Option (Int32 × xH) :=
  if (h.1 8 0 0) = (0 : Int32) then (
  some (((-1 : Int32), h))) else (
  (f_Sets_ringsAmong_30 (h.1 6 2 0) 0 h).bind fun q4 =>
  some ((q4.1, q4.2)))
set_option maxHeartbeats 4000000 in
set_option maxRecDepth 100000 in
theorem f_B_rings_e_ok {g : xG} {l : Launch} {d : Nat} {h : xH} {o : (Int32 × xH)} {R : Option xV} {H' : xH} (hD : 2 ≤ d) (hf : f_B_rings_e h = some o) (K0 : ∀ (a : Int32) (h1 : xH), o = (a, h1) → R = some (xi a) ∧ H' = h1) : xEv g l d 114 0 [(0, xr 11 (some 0))] [] h R H' := by
  unfold f_B_rings_e at hf
  refine xs_aload_n d114_0 rfl ?_
  refine xe_getc (j := 0) d114_1 ky114 fl153 fk11_6 rfl ?_
  refine xe_getc (j := 0) d114_4 ky114 fl96 fk4_0 rfl ?_
  refine xe_geti d114_7 ky114 fl19 fk8_0 ?_
  rcases lk_if hf with ⟨hc1, hf⟩ | ⟨hc1, hf⟩
  · refine xs_if_ne (tgt := 15) d114_10 (by decide) (fun _ => ?_) (fun hn => absurd hc1 hn)
    refine xs_iconst (v := -1) d114_13 (by decide) ?_
    obtain ⟨eR, eH⟩ := K0 _ _ (Option.some.inj hf).symm
    subst eR; subst eH
    exact xs_iret d114_14 rt114
  · refine xs_if_ne (tgt := 15) d114_10 (by decide) (fun hp => absurd hp hc1) (fun _ => ?_)
    refine xs_aload_n d114_15 rfl ?_
    refine xe_getc (j := 0) d114_16 ky114 fl158 fk11_11 rfl ?_
    refine xs_aload_n d114_19 rfl ?_
    refine xe_getc (j := 0) d114_20 ky114 fl153 fk11_6 rfl ?_
    refine xe_getc (j := 0) d114_23 ky114 fl98 fk4_1 rfl ?_
    refine xe_geti d114_26 ky114 fl78 fk6_2 ?_
    refine xs_aload_n d114_29 rfl ?_
    refine xe_getc (j := 0) d114_30 ky114 fl153 fk11_6 rfl ?_
    refine xe_getc (j := 0) d114_33 ky114 fl98 fk4_1 rfl ?_
    refine xe_getc (j := 0) d114_36 ky114 fl86 fk6_5 rfl ?_
    obtain ⟨q4, hc3, hf⟩ := lk_b hf
    refine xe_callv1 (as := [xi (h.1 6 2 0), xr 30 (some 0)]) (st := []) (h2 := q4.2) (d2 := d - 1) d114_39 ky114 ml131 st41 (by decide) cn41 rfl na41 (Nat.le_of_ble_eq_true rfl) (by omega) (f_Sets_ringsAmong_30_ok (by omega) hc3) ?_
    obtain ⟨eR, eH⟩ := K0 _ _ (Option.some.inj hf).symm
    subst eR; subst eH
    exact xs_iret d114_42 rt114
noncomputable def f_B_rings (h : xH) : Option (Int32 × xH) := f_B_rings_e h
theorem f_B_rings_ok {g : xG} {l : Launch} {d : Nat} {h : xH} {r : Int32} {h1 : xH} (hD : 2 ≤ d) (hf : f_B_rings h = some (r, h1)) : xC g l d 114 [xr 11 (some 0)] h (some (xi r)) h1 :=
  xC_of2 (by decide) mx114 (Nat.le_of_ble_eq_true rfl) (f_B_rings_e_ok hD hf (fun _ _ e => by cases e; exact ⟨rfl, rfl⟩))
theorem d115_0 : decode (xcode 115) 0 = .ok (.aload_n 0, 1) := by decide +kernel
theorem d115_1 : decode (xcode 115) 1 = .ok (.getfield 55, 3) := by decide +kernel
theorem d115_4 : decode (xcode 115) 4 = .ok (.getfield 114, 3) := by decide +kernel
theorem d115_7 : decode (xcode 115) 7 = .ok (.getfield 173, 3) := by decide +kernel
theorem d115_10 : decode (xcode 115) 10 = .ok (.ifCond .eq 12, 3) := by decide +kernel
theorem d115_13 : decode (xcode 115) 13 = .ok (.iload_n 1, 1) := by decide +kernel
theorem d115_14 : decode (xcode 115) 14 = .ok (.ifCond .lt 8, 3) := by decide +kernel
theorem d115_17 : decode (xcode 115) 17 = .ok (.iload_n 1, 1) := by decide +kernel
theorem d115_18 : decode (xcode 115) 18 = .ok (.iconst 1, 1) := by decide +kernel
theorem d115_19 : decode (xcode 115) 19 = .ok (.if_icmp .le 5, 3) := by decide +kernel
theorem d115_22 : decode (xcode 115) 22 = .ok (.iconst (-1), 1) := by decide +kernel
theorem d115_23 : decode (xcode 115) 23 = .ok (.ireturn, 1) := by decide +kernel
theorem d115_24 : decode (xcode 115) 24 = .ok (.aload_n 0, 1) := by decide +kernel
theorem d115_25 : decode (xcode 115) 25 = .ok (.getfield 84, 3) := by decide +kernel
theorem d115_28 : decode (xcode 115) 28 = .ok (.aload_n 0, 1) := by decide +kernel
theorem d115_29 : decode (xcode 115) 29 = .ok (.getfield 55, 3) := by decide +kernel
theorem d115_32 : decode (xcode 115) 32 = .ok (.getfield 121, 3) := by decide +kernel
theorem d115_35 : decode (xcode 115) 35 = .ok (.invokevirtual 280, 3) := by decide +kernel
theorem d115_38 : decode (xcode 115) 38 = .ok (.istore_n 2, 1) := by decide +kernel
theorem d115_39 : decode (xcode 115) 39 = .ok (.iload_n 1, 1) := by decide +kernel
theorem d115_40 : decode (xcode 115) 40 = .ok (.ifCond .ne 10, 3) := by decide +kernel
theorem d115_43 : decode (xcode 115) 43 = .ok (.iload_n 2, 1) := by decide +kernel
theorem d115_44 : decode (xcode 115) 44 = .ok (.invokestatic 233, 3) := by decide +kernel
theorem d115_47 : decode (xcode 115) 47 = .ok (.goto 4, 3) := by decide +kernel
theorem d115_50 : decode (xcode 115) 50 = .ok (.iload_n 2, 1) := by decide +kernel
theorem d115_51 : decode (xcode 115) 51 = .ok (.ireturn, 1) := by decide +kernel
noncomputable def f_B_taken_e (v1 : Int32) (h : xH) : Option (Int32 × xH) :=
  if (h.1 8 0 0) = (0 : Int32) then (
  some (((-1 : Int32), h))) else (
  if v1 < (0 : Int32) then (
  some (((-1 : Int32), h))) else (
  if v1 ≤ (1 : Int32) then (
  (f_Sets_fewestForNoRings 0 h).bind fun q6 =>
  if v1 = (0 : Int32) then (
  (f_Integer_bitCount q6.1 q6.2).bind fun r8 =>
  some ((r8, q6.2))) else (
  some ((q6.1, q6.2)))) else (
  some (((-1 : Int32), h)))))
set_option maxHeartbeats 4000000 in
set_option maxRecDepth 100000 in
theorem f_B_taken_e_ok {g : xG} {l : Launch} {d : Nat} {v1 : Int32} {h : xH} {o : (Int32 × xH)} {R : Option xV} {H' : xH} (hD : 3 ≤ d) (hf : f_B_taken_e v1 h = some o) (K0 : ∀ (a : Int32) (h1 : xH), o = (a, h1) → R = some (xi a) ∧ H' = h1) : xEv g l d 115 0 [(0, xr 11 (some 0)), (1, xi v1)] [] h R H' := by
  unfold f_B_taken_e at hf
  refine xs_aload_n d115_0 rfl ?_
  refine xe_getc (j := 0) d115_1 ky115 fl153 fk11_6 rfl ?_
  refine xe_getc (j := 0) d115_4 ky115 fl96 fk4_0 rfl ?_
  refine xe_geti d115_7 ky115 fl19 fk8_0 ?_
  rcases lk_if hf with ⟨hc1, hf⟩ | ⟨hc1, hf⟩
  · refine xs_if_eq (tgt := 22) d115_10 (by decide) (fun _ => ?_) (fun hn => absurd hc1 hn)
    refine xs_iconst (v := -1) d115_22 (by decide) ?_
    obtain ⟨eR, eH⟩ := K0 _ _ (Option.some.inj hf).symm
    subst eR; subst eH
    exact xs_iret d115_23 rt115
  · refine xs_if_eq (tgt := 22) d115_10 (by decide) (fun hp => absurd hp hc1) (fun _ => ?_)
    refine xs_iload_n d115_13 rfl ?_
    rcases lk_if hf with ⟨hc2, hf⟩ | ⟨hc2, hf⟩
    · refine xs_if_lt (tgt := 22) d115_14 (by decide) (fun _ => ?_) (fun hn => absurd hc2 hn)
      refine xs_iconst (v := -1) d115_22 (by decide) ?_
      obtain ⟨eR, eH⟩ := K0 _ _ (Option.some.inj hf).symm
      subst eR; subst eH
      exact xs_iret d115_23 rt115
    · refine xs_if_lt (tgt := 22) d115_14 (by decide) (fun hp => absurd hp hc2) (fun _ => ?_)
      refine xs_iload_n d115_17 rfl ?_
      refine xs_iconst (v := 1) d115_18 (by decide) ?_
      rcases lk_if hf with ⟨hc3, hf⟩ | ⟨hc3, hf⟩
      · refine xs_icmp_le (tgt := 24) d115_19 (by decide) (fun _ => ?_) (fun hn => absurd hc3 hn)
        refine xs_aload_n d115_24 rfl ?_
        refine xe_getc (j := 0) d115_25 ky115 fl158 fk11_11 rfl ?_
        refine xs_aload_n d115_28 rfl ?_
        refine xe_getc (j := 0) d115_29 ky115 fl153 fk11_6 rfl ?_
        refine xe_getc (j := 0) d115_32 ky115 fl98 fk4_1 rfl ?_
        obtain ⟨q6, hc5, hf⟩ := lk_b hf
        refine xe_callv1 (as := [xr 6 (some 0)]) (st := []) (h2 := q6.2) (d2 := d - 1) d115_35 ky115 ml133 st42 (by decide) cn42 rfl na42 (Nat.le_of_ble_eq_true rfl) (by omega) (f_Sets_fewestForNoRings_ok (by omega) hc5) ?_
        refine xe_istore_n (v := q6.1) (ls2 := [(0, xr 11 (some 0)), (1, xi v1), (2, xi q6.1)]) d115_38 mx115 (by decide) rfl rfl ?_
        refine xs_iload_n d115_39 rfl ?_
        rcases lk_if hf with ⟨hc7, hf⟩ | ⟨hc7, hf⟩
        · refine xs_if_ne (tgt := 50) d115_40 (by decide) (fun _ => ?_) (fun hn => absurd hc7 hn)
          refine xs_iload_n d115_43 rfl ?_
          obtain ⟨r8, hc9, hf⟩ := lk_b hf
          refine xe_calls1 (as := [xi q6.1]) (st := []) (h2 := q6.2) (d2 := d - 1) d115_44 ky115 ml105 st255 rfl na255 (Nat.le_of_ble_eq_true rfl) (by omega) (f_Integer_bitCount_ok (by omega) hc9) ?_
          refine xs_goto (tgt := 51) d115_47 (by decide) ?_
          obtain ⟨eR, eH⟩ := K0 _ _ (Option.some.inj hf).symm
          subst eR; subst eH
          exact xs_iret d115_51 rt115
        · refine xs_if_ne (tgt := 50) d115_40 (by decide) (fun hp => absurd hp hc7) (fun _ => ?_)
          refine xs_iload_n d115_50 rfl ?_
          obtain ⟨eR, eH⟩ := K0 _ _ (Option.some.inj hf).symm
          subst eR; subst eH
          exact xs_iret d115_51 rt115
      · refine xs_icmp_le (tgt := 24) d115_19 (by decide) (fun hp => absurd hp hc3) (fun _ => ?_)
        refine xs_iconst (v := -1) d115_22 (by decide) ?_
        obtain ⟨eR, eH⟩ := K0 _ _ (Option.some.inj hf).symm
        subst eR; subst eH
        exact xs_iret d115_23 rt115
noncomputable def f_B_taken (v1 : Int32) (h : xH) : Option (Int32 × xH) := f_B_taken_e v1 h
theorem f_B_taken_ok {g : xG} {l : Launch} {d : Nat} {v1 : Int32} {h : xH} {r : Int32} {h1 : xH} (hD : 3 ≤ d) (hf : f_B_taken v1 h = some (r, h1)) : xC g l d 115 [xr 11 (some 0), xi v1] h (some (xi r)) h1 :=
  xC_of2 (by decide) mx115 (Nat.le_of_ble_eq_true rfl) (f_B_taken_e_ok hD hf (fun _ _ e => by cases e; exact ⟨rfl, rfl⟩))
theorem d116_0 : decode (xcode 116) 0 = .ok (.aload_n 0, 1) := by decide +kernel
theorem d116_1 : decode (xcode 116) 1 = .ok (.getfield 55, 3) := by decide +kernel
theorem d116_4 : decode (xcode 116) 4 = .ok (.getfield 114, 3) := by decide +kernel
theorem d116_7 : decode (xcode 116) 7 = .ok (.getfield 173, 3) := by decide +kernel
theorem d116_10 : decode (xcode 116) 10 = .ok (.ifCond .eq 14, 3) := by decide +kernel
theorem d116_13 : decode (xcode 116) 13 = .ok (.iload_n 1, 1) := by decide +kernel
theorem d116_14 : decode (xcode 116) 14 = .ok (.iconst (-1), 1) := by decide +kernel
theorem d116_15 : decode (xcode 116) 15 = .ok (.if_icmp .lt 9, 3) := by decide +kernel
theorem d116_18 : decode (xcode 116) 18 = .ok (.iload_n 1, 1) := by decide +kernel
theorem d116_19 : decode (xcode 116) 19 = .ok (.bipush 8, 2) := by decide +kernel
theorem d116_21 : decode (xcode 116) 21 = .ok (.if_icmp .lt 6, 3) := by decide +kernel
theorem d116_24 : decode (xcode 116) 24 = .ok (.bipush (-3), 2) := by decide +kernel
theorem d116_26 : decode (xcode 116) 26 = .ok (.ireturn, 1) := by decide +kernel
theorem d116_27 : decode (xcode 116) 27 = .ok (.iload_n 1, 1) := by decide +kernel
theorem d116_28 : decode (xcode 116) 28 = .ok (.iconst (-1), 1) := by decide +kernel
theorem d116_29 : decode (xcode 116) 29 = .ok (.if_icmp .eq 20, 3) := by decide +kernel
theorem d116_32 : decode (xcode 116) 32 = .ok (.aload_n 0, 1) := by decide +kernel
theorem d116_33 : decode (xcode 116) 33 = .ok (.getfield 55, 3) := by decide +kernel
theorem d116_36 : decode (xcode 116) 36 = .ok (.getfield 121, 3) := by decide +kernel
theorem d116_39 : decode (xcode 116) 39 = .ok (.iload_n 1, 1) := by decide +kernel
theorem d116_40 : decode (xcode 116) 40 = .ok (.invokevirtual 209, 3) := by decide +kernel
theorem d116_43 : decode (xcode 116) 43 = .ok (.ifCond .ne 6, 3) := by decide +kernel
theorem d116_46 : decode (xcode 116) 46 = .ok (.bipush (-2), 2) := by decide +kernel
theorem d116_48 : decode (xcode 116) 48 = .ok (.ireturn, 1) := by decide +kernel
theorem d116_49 : decode (xcode 116) 49 = .ok (.aload_n 0, 1) := by decide +kernel
theorem d116_50 : decode (xcode 116) 50 = .ok (.getfield 91, 3) := by decide +kernel
theorem d116_53 : decode (xcode 116) 53 = .ok (.aload_n 0, 1) := by decide +kernel
theorem d116_54 : decode (xcode 116) 54 = .ok (.getfield 55, 3) := by decide +kernel
theorem d116_57 : decode (xcode 116) 57 = .ok (.getfield 114, 3) := by decide +kernel
theorem d116_60 : decode (xcode 116) 60 = .ok (.aload_n 0, 1) := by decide +kernel
theorem d116_61 : decode (xcode 116) 61 = .ok (.getfield 55, 3) := by decide +kernel
theorem d116_64 : decode (xcode 116) 64 = .ok (.getfield 121, 3) := by decide +kernel
theorem d116_67 : decode (xcode 116) 67 = .ok (.invokevirtual 284, 3) := by decide +kernel
theorem d116_70 : decode (xcode 116) 70 = .ok (.iload_n 1, 1) := by decide +kernel
theorem d116_71 : decode (xcode 116) 71 = .ok (.iconst (-1), 1) := by decide +kernel
theorem d116_72 : decode (xcode 116) 72 = .ok (.if_icmp .ne 13, 3) := by decide +kernel
theorem d116_75 : decode (xcode 116) 75 = .ok (.aload_n 0, 1) := by decide +kernel
theorem d116_76 : decode (xcode 116) 76 = .ok (.getfield 91, 3) := by decide +kernel
theorem d116_79 : decode (xcode 116) 79 = .ok (.getfield 287, 3) := by decide +kernel
theorem d116_82 : decode (xcode 116) 82 = .ok (.goto 12, 3) := by decide +kernel
theorem d116_85 : decode (xcode 116) 85 = .ok (.aload_n 0, 1) := by decide +kernel
theorem d116_86 : decode (xcode 116) 86 = .ok (.getfield 91, 3) := by decide +kernel
theorem d116_89 : decode (xcode 116) 89 = .ok (.getfield 290, 3) := by decide +kernel
theorem d116_92 : decode (xcode 116) 92 = .ok (.iload_n 1, 1) := by decide +kernel
theorem d116_93 : decode (xcode 116) 93 = .ok (.iaload, 1) := by decide +kernel
theorem d116_94 : decode (xcode 116) 94 = .ok (.ireturn, 1) := by decide +kernel
noncomputable def f_B_carry_b49 (v1 : Int32) (h : xH) : Option (Int32 × xH) :=
  (f_Bearing_part 0 0 h).bind fun h7 =>
  if v1 = (-1 : Int32) then (
  some ((h7.1 0 0 0, h7))) else (
  if xib v1 8 then (
  some ((h7.2.2.2.1 13 0 (v1).toNatClampNeg, h7))) else none)
set_option maxHeartbeats 4000000 in
set_option maxRecDepth 100000 in
theorem f_B_carry_b49_ok {g : xG} {l : Launch} {d : Nat} {v1 : Int32} {h : xH} {o : (Int32 × xH)} {R : Option xV} {H' : xH} (hD : 4 ≤ d) (hf : f_B_carry_b49 v1 h = some o) (K0 : ∀ (a : Int32) (h1 : xH), o = (a, h1) → R = some (xi a) ∧ H' = h1) : xEv g l d 116 49 [(0, xr 11 (some 0)), (1, xi v1)] [] h R H' := by
  unfold f_B_carry_b49 at hf
  refine xs_aload_n d116_49 rfl ?_
  refine xe_getc (j := 0) d116_50 ky116 fl159 fk11_12 rfl ?_
  refine xs_aload_n d116_53 rfl ?_
  refine xe_getc (j := 0) d116_54 ky116 fl153 fk11_6 rfl ?_
  refine xe_getc (j := 0) d116_57 ky116 fl96 fk4_0 rfl ?_
  refine xs_aload_n d116_60 rfl ?_
  refine xe_getc (j := 0) d116_61 ky116 fl153 fk11_6 rfl ?_
  refine xe_getc (j := 0) d116_64 ky116 fl98 fk4_1 rfl ?_
  obtain ⟨h7, hc6, hf⟩ := lk_b hf
  refine xe_callv0 (as := [xr 8 (some 0), xr 6 (some 0)]) (st := []) (h2 := h7) (d2 := d - 1) d116_67 ky116 ml137 st0 (by decide) cn0 rfl na0 (Nat.le_of_ble_eq_true rfl) (by omega) (f_Bearing_part_ok (by omega) hc6) ?_
  refine xs_iload_n d116_70 rfl ?_
  refine xs_iconst (v := -1) d116_71 (by decide) ?_
  rcases lk_if hf with ⟨hc8, hf⟩ | ⟨hc8, hf⟩
  · refine xs_icmp_ne (tgt := 85) d116_72 (by decide) (fun _ => ?_) (fun hn => absurd hc8 hn)
    refine xs_aload_n d116_75 rfl ?_
    refine xe_getc (j := 0) d116_76 ky116 fl159 fk11_12 rfl ?_
    refine xe_geti d116_79 ky116 fl141 fk0_0 ?_
    refine xs_goto (tgt := 94) d116_82 (by decide) ?_
    obtain ⟨eR, eH⟩ := K0 _ _ (Option.some.inj hf).symm
    subst eR; subst eH
    exact xs_iret d116_94 rt116
  · refine xs_icmp_ne (tgt := 85) d116_72 (by decide) (fun hp => absurd hp hc8) (fun _ => ?_)
    refine xs_aload_n d116_85 rfl ?_
    refine xe_getc (j := 0) d116_86 ky116 fl159 fk11_12 rfl ?_
    refine xe_getc (j := 0) d116_89 ky116 fl143 fk0_1 rfl ?_
    refine xs_iload_n d116_92 rfl ?_
    obtain ⟨hin9, hf⟩ := lk_g hf
    refine xe_iald d116_93 (by decide) ak13 hin9 ?_
    obtain ⟨eR, eH⟩ := K0 _ _ (Option.some.inj hf).symm
    subst eR; subst eH
    exact xs_iret d116_94 rt116
noncomputable def f_B_carry_e (v1 : Int32) (h : xH) : Option (Int32 × xH) :=
  if (h.1 8 0 0) = (0 : Int32) then (
  some (((-3 : Int32), h))) else (
  if v1 < (-1 : Int32) then (
  some (((-3 : Int32), h))) else (
  if v1 < (8 : Int32) then (
  if v1 = (-1 : Int32) then (
  f_B_carry_b49 v1 h) else (
  (f_State_isIn 0 v1 h).bind fun r10 =>
  if r10 = (0 : Int32) then (
  some (((-2 : Int32), h))) else (
  f_B_carry_b49 v1 h))) else (
  some (((-3 : Int32), h)))))
set_option maxHeartbeats 4000000 in
set_option maxRecDepth 100000 in
theorem f_B_carry_e_ok {g : xG} {l : Launch} {d : Nat} {v1 : Int32} {h : xH} {o : (Int32 × xH)} {R : Option xV} {H' : xH} (hD : 4 ≤ d) (hf : f_B_carry_e v1 h = some o) (K0 : ∀ (a : Int32) (h1 : xH), o = (a, h1) → R = some (xi a) ∧ H' = h1) : xEv g l d 116 0 [(0, xr 11 (some 0)), (1, xi v1)] [] h R H' := by
  unfold f_B_carry_e at hf
  refine xs_aload_n d116_0 rfl ?_
  refine xe_getc (j := 0) d116_1 ky116 fl153 fk11_6 rfl ?_
  refine xe_getc (j := 0) d116_4 ky116 fl96 fk4_0 rfl ?_
  refine xe_geti d116_7 ky116 fl19 fk8_0 ?_
  rcases lk_if hf with ⟨hc1, hf⟩ | ⟨hc1, hf⟩
  · refine xs_if_eq (tgt := 24) d116_10 (by decide) (fun _ => ?_) (fun hn => absurd hc1 hn)
    refine xs_bipush (v := -3) d116_24 (by decide) ?_
    obtain ⟨eR, eH⟩ := K0 _ _ (Option.some.inj hf).symm
    subst eR; subst eH
    exact xs_iret d116_26 rt116
  · refine xs_if_eq (tgt := 24) d116_10 (by decide) (fun hp => absurd hp hc1) (fun _ => ?_)
    refine xs_iload_n d116_13 rfl ?_
    refine xs_iconst (v := -1) d116_14 (by decide) ?_
    rcases lk_if hf with ⟨hc2, hf⟩ | ⟨hc2, hf⟩
    · refine xs_icmp_lt (tgt := 24) d116_15 (by decide) (fun _ => ?_) (fun hn => absurd hc2 hn)
      refine xs_bipush (v := -3) d116_24 (by decide) ?_
      obtain ⟨eR, eH⟩ := K0 _ _ (Option.some.inj hf).symm
      subst eR; subst eH
      exact xs_iret d116_26 rt116
    · refine xs_icmp_lt (tgt := 24) d116_15 (by decide) (fun hp => absurd hp hc2) (fun _ => ?_)
      refine xs_iload_n d116_18 rfl ?_
      refine xs_bipush (v := 8) d116_19 (by decide) ?_
      rcases lk_if hf with ⟨hc3, hf⟩ | ⟨hc3, hf⟩
      · refine xs_icmp_lt (tgt := 27) d116_21 (by decide) (fun _ => ?_) (fun hn => absurd hc3 hn)
        refine xs_iload_n d116_27 rfl ?_
        refine xs_iconst (v := -1) d116_28 (by decide) ?_
        rcases lk_if hf with ⟨hc4, hf⟩ | ⟨hc4, hf⟩
        · refine xs_icmp_eq (tgt := 49) d116_29 (by decide) (fun _ => ?_) (fun hn => absurd hc4 hn)
          exact f_B_carry_b49_ok hD hf K0
        · refine xs_icmp_eq (tgt := 49) d116_29 (by decide) (fun hp => absurd hp hc4) (fun _ => ?_)
          refine xs_aload_n d116_32 rfl ?_
          refine xe_getc (j := 0) d116_33 ky116 fl153 fk11_6 rfl ?_
          refine xe_getc (j := 0) d116_36 ky116 fl98 fk4_1 rfl ?_
          refine xs_iload_n d116_39 rfl ?_
          obtain ⟨r10, hc11, hf⟩ := lk_b hf
          refine xe_callv1 (as := [xi v1]) (st := []) (h2 := h) (d2 := d - 1) d116_40 ky116 ml98 st47 (by decide) cn47 rfl na47 (Nat.le_of_ble_eq_true rfl) (by omega) (f_State_isIn_ok (by omega) hc11) ?_
          rcases lk_if hf with ⟨hc12, hf⟩ | ⟨hc12, hf⟩
          · refine xs_if_ne (tgt := 49) d116_43 (by decide) (fun _ => ?_) (fun hn => absurd hc12 hn)
            refine xs_bipush (v := -2) d116_46 (by decide) ?_
            obtain ⟨eR, eH⟩ := K0 _ _ (Option.some.inj hf).symm
            subst eR; subst eH
            exact xs_iret d116_48 rt116
          · refine xs_if_ne (tgt := 49) d116_43 (by decide) (fun hp => absurd hp hc12) (fun _ => ?_)
            exact f_B_carry_b49_ok hD hf K0
      · refine xs_icmp_lt (tgt := 27) d116_21 (by decide) (fun hp => absurd hp hc3) (fun _ => ?_)
        refine xs_bipush (v := -3) d116_24 (by decide) ?_
        obtain ⟨eR, eH⟩ := K0 _ _ (Option.some.inj hf).symm
        subst eR; subst eH
        exact xs_iret d116_26 rt116
noncomputable def f_B_carry (v1 : Int32) (h : xH) : Option (Int32 × xH) := f_B_carry_e v1 h
theorem f_B_carry_ok {g : xG} {l : Launch} {d : Nat} {v1 : Int32} {h : xH} {r : Int32} {h1 : xH} (hD : 4 ≤ d) (hf : f_B_carry v1 h = some (r, h1)) : xC g l d 116 [xr 11 (some 0), xi v1] h (some (xi r)) h1 :=
  xC_of2 (by decide) mx116 (Nat.le_of_ble_eq_true rfl) (f_B_carry_e_ok hD hf (fun _ _ e => by cases e; exact ⟨rfl, rfl⟩))
theorem d117_0 : decode (xcode 117) 0 = .ok (.aload_n 0, 1) := by decide +kernel
theorem d117_1 : decode (xcode 117) 1 = .ok (.getfield 55, 3) := by decide +kernel
theorem d117_4 : decode (xcode 117) 4 = .ok (.getfield 114, 3) := by decide +kernel
theorem d117_7 : decode (xcode 117) 7 = .ok (.getfield 173, 3) := by decide +kernel
theorem d117_10 : decode (xcode 117) 10 = .ok (.ifCond .eq 12, 3) := by decide +kernel
theorem d117_13 : decode (xcode 117) 13 = .ok (.iload_n 1, 1) := by decide +kernel
theorem d117_14 : decode (xcode 117) 14 = .ok (.ifCond .lt 8, 3) := by decide +kernel
theorem d117_17 : decode (xcode 117) 17 = .ok (.iload_n 1, 1) := by decide +kernel
theorem d117_18 : decode (xcode 117) 18 = .ok (.iconst 1, 1) := by decide +kernel
theorem d117_19 : decode (xcode 117) 19 = .ok (.if_icmp .le 5, 3) := by decide +kernel
theorem d117_22 : decode (xcode 117) 22 = .ok (.iconst (-1), 1) := by decide +kernel
theorem d117_23 : decode (xcode 117) 23 = .ok (.ireturn, 1) := by decide +kernel
theorem d117_24 : decode (xcode 117) 24 = .ok (.aload_n 0, 1) := by decide +kernel
theorem d117_25 : decode (xcode 117) 25 = .ok (.getfield 91, 3) := by decide +kernel
theorem d117_28 : decode (xcode 117) 28 = .ok (.aload_n 0, 1) := by decide +kernel
theorem d117_29 : decode (xcode 117) 29 = .ok (.getfield 55, 3) := by decide +kernel
theorem d117_32 : decode (xcode 117) 32 = .ok (.getfield 121, 3) := by decide +kernel
theorem d117_35 : decode (xcode 117) 35 = .ok (.aload_n 0, 1) := by decide +kernel
theorem d117_36 : decode (xcode 117) 36 = .ok (.getfield 55, 3) := by decide +kernel
theorem d117_39 : decode (xcode 117) 39 = .ok (.getfield 114, 3) := by decide +kernel
theorem d117_42 : decode (xcode 117) 42 = .ok (.getfield 224, 3) := by decide +kernel
theorem d117_45 : decode (xcode 117) 45 = .ok (.invokevirtual 227, 3) := by decide +kernel
theorem d117_48 : decode (xcode 117) 48 = .ok (.aload_n 0, 1) := by decide +kernel
theorem d117_49 : decode (xcode 117) 49 = .ok (.getfield 55, 3) := by decide +kernel
theorem d117_52 : decode (xcode 117) 52 = .ok (.getfield 114, 3) := by decide +kernel
theorem d117_55 : decode (xcode 117) 55 = .ok (.invokevirtual 293, 3) := by decide +kernel
theorem d117_58 : decode (xcode 117) 58 = .ok (.istore_n 2, 1) := by decide +kernel
theorem d117_59 : decode (xcode 117) 59 = .ok (.iload_n 2, 1) := by decide +kernel
theorem d117_60 : decode (xcode 117) 60 = .ok (.iconst (-1), 1) := by decide +kernel
theorem d117_61 : decode (xcode 117) 61 = .ok (.if_icmp .ne 6, 3) := by decide +kernel
theorem d117_64 : decode (xcode 117) 64 = .ok (.bipush (-2), 2) := by decide +kernel
theorem d117_66 : decode (xcode 117) 66 = .ok (.ireturn, 1) := by decide +kernel
theorem d117_67 : decode (xcode 117) 67 = .ok (.iload_n 1, 1) := by decide +kernel
theorem d117_68 : decode (xcode 117) 68 = .ok (.ifCond .ne 10, 3) := by decide +kernel
theorem d117_71 : decode (xcode 117) 71 = .ok (.iload_n 2, 1) := by decide +kernel
theorem d117_72 : decode (xcode 117) 72 = .ok (.invokestatic 233, 3) := by decide +kernel
theorem d117_75 : decode (xcode 117) 75 = .ok (.goto 4, 3) := by decide +kernel
theorem d117_78 : decode (xcode 117) 78 = .ok (.iload_n 2, 1) := by decide +kernel
theorem d117_79 : decode (xcode 117) 79 = .ok (.ireturn, 1) := by decide +kernel
noncomputable def f_B_pole_e (v1 : Int32) (h : xH) : Option Int32 :=
  if (h.1 8 0 0) = (0 : Int32) then (
  some ((-1 : Int32))) else (
  if v1 < (0 : Int32) then (
  some ((-1 : Int32))) else (
  if v1 ≤ (1 : Int32) then (
  (f_State_load 0 (h.1 8 2 0) h).bind fun r4 =>
  (f_Bearing_fewestFor r4 0 h).bind fun r6 =>
  if r6 = (-1 : Int32) then (
  some ((-2 : Int32))) else (
  if v1 = (0 : Int32) then (
  (f_Integer_bitCount r6 h).bind fun r10 =>
  some (r10)) else (
  some (r6)))) else (
  some ((-1 : Int32)))))
set_option maxHeartbeats 4000000 in
set_option maxRecDepth 100000 in
theorem f_B_pole_e_ok {g : xG} {l : Launch} {d : Nat} {v1 : Int32} {h : xH} {o : Int32} {R : Option xV} (hD : 2 ≤ d) (hf : f_B_pole_e v1 h = some o) (K0 : ∀ (a : Int32), o = a → R = some (xi a)) : xEv g l d 117 0 [(0, xr 11 (some 0)), (1, xi v1)] [] h R h := by
  unfold f_B_pole_e at hf
  refine xs_aload_n d117_0 rfl ?_
  refine xe_getc (j := 0) d117_1 ky117 fl153 fk11_6 rfl ?_
  refine xe_getc (j := 0) d117_4 ky117 fl96 fk4_0 rfl ?_
  refine xe_geti d117_7 ky117 fl19 fk8_0 ?_
  rcases lk_if hf with ⟨hc1, hf⟩ | ⟨hc1, hf⟩
  · refine xs_if_eq (tgt := 22) d117_10 (by decide) (fun _ => ?_) (fun hn => absurd hc1 hn)
    refine xs_iconst (v := -1) d117_22 (by decide) ?_
    obtain eR := K0 _ (Option.some.inj hf).symm
    subst eR
    exact xs_iret d117_23 rt117
  · refine xs_if_eq (tgt := 22) d117_10 (by decide) (fun hp => absurd hp hc1) (fun _ => ?_)
    refine xs_iload_n d117_13 rfl ?_
    rcases lk_if hf with ⟨hc2, hf⟩ | ⟨hc2, hf⟩
    · refine xs_if_lt (tgt := 22) d117_14 (by decide) (fun _ => ?_) (fun hn => absurd hc2 hn)
      refine xs_iconst (v := -1) d117_22 (by decide) ?_
      obtain eR := K0 _ (Option.some.inj hf).symm
      subst eR
      exact xs_iret d117_23 rt117
    · refine xs_if_lt (tgt := 22) d117_14 (by decide) (fun hp => absurd hp hc2) (fun _ => ?_)
      refine xs_iload_n d117_17 rfl ?_
      refine xs_iconst (v := 1) d117_18 (by decide) ?_
      rcases lk_if hf with ⟨hc3, hf⟩ | ⟨hc3, hf⟩
      · refine xs_icmp_le (tgt := 24) d117_19 (by decide) (fun _ => ?_) (fun hn => absurd hc3 hn)
        refine xs_aload_n d117_24 rfl ?_
        refine xe_getc (j := 0) d117_25 ky117 fl159 fk11_12 rfl ?_
        refine xs_aload_n d117_28 rfl ?_
        refine xe_getc (j := 0) d117_29 ky117 fl153 fk11_6 rfl ?_
        refine xe_getc (j := 0) d117_32 ky117 fl98 fk4_1 rfl ?_
        refine xs_aload_n d117_35 rfl ?_
        refine xe_getc (j := 0) d117_36 ky117 fl153 fk11_6 rfl ?_
        refine xe_getc (j := 0) d117_39 ky117 fl96 fk4_0 rfl ?_
        refine xe_geti d117_42 ky117 fl28 fk8_2 ?_
        obtain ⟨r4, hc5, hf⟩ := lk_b hf
        refine xe_callv1 (as := [xi (h.1 8 2 0)]) (st := [xr 0 (some 0)]) (h2 := h) (d2 := d - 1) d117_45 ky117 ml104 st52 (by decide) cn52 rfl na52 (Nat.le_of_ble_eq_true rfl) (by omega) (f_State_load_ok (by omega) hc5) ?_
        refine xs_aload_n d117_48 rfl ?_
        refine xe_getc (j := 0) d117_49 ky117 fl153 fk11_6 rfl ?_
        refine xe_getc (j := 0) d117_52 ky117 fl96 fk4_0 rfl ?_
        obtain ⟨r6, hc7, hf⟩ := lk_b hf
        refine xe_callv1 (as := [xi r4, xr 8 (some 0)]) (st := []) (h2 := h) (d2 := d - 1) d117_55 ky117 ml145 st4 (by decide) cn4 rfl na4 (Nat.le_of_ble_eq_true rfl) (by omega) (f_Bearing_fewestFor_ok (by omega) hc7) ?_
        refine xe_istore_n (v := r6) (ls2 := [(0, xr 11 (some 0)), (1, xi v1), (2, xi r6)]) d117_58 mx117 (by decide) rfl rfl ?_
        refine xs_iload_n d117_59 rfl ?_
        refine xs_iconst (v := -1) d117_60 (by decide) ?_
        rcases lk_if hf with ⟨hc8, hf⟩ | ⟨hc8, hf⟩
        · refine xs_icmp_ne (tgt := 67) d117_61 (by decide) (fun _ => ?_) (fun hn => absurd hc8 hn)
          refine xs_bipush (v := -2) d117_64 (by decide) ?_
          obtain eR := K0 _ (Option.some.inj hf).symm
          subst eR
          exact xs_iret d117_66 rt117
        · refine xs_icmp_ne (tgt := 67) d117_61 (by decide) (fun hp => absurd hp hc8) (fun _ => ?_)
          refine xs_iload_n d117_67 rfl ?_
          rcases lk_if hf with ⟨hc9, hf⟩ | ⟨hc9, hf⟩
          · refine xs_if_ne (tgt := 78) d117_68 (by decide) (fun _ => ?_) (fun hn => absurd hc9 hn)
            refine xs_iload_n d117_71 rfl ?_
            obtain ⟨r10, hc11, hf⟩ := lk_b hf
            refine xe_calls1 (as := [xi r6]) (st := []) (h2 := h) (d2 := d - 1) d117_72 ky117 ml105 st255 rfl na255 (Nat.le_of_ble_eq_true rfl) (by omega) (f_Integer_bitCount_ok (by omega) hc11) ?_
            refine xs_goto (tgt := 79) d117_75 (by decide) ?_
            obtain eR := K0 _ (Option.some.inj hf).symm
            subst eR
            exact xs_iret d117_79 rt117
          · refine xs_if_ne (tgt := 78) d117_68 (by decide) (fun hp => absurd hp hc9) (fun _ => ?_)
            refine xs_iload_n d117_78 rfl ?_
            obtain eR := K0 _ (Option.some.inj hf).symm
            subst eR
            exact xs_iret d117_79 rt117
      · refine xs_icmp_le (tgt := 24) d117_19 (by decide) (fun hp => absurd hp hc3) (fun _ => ?_)
        refine xs_iconst (v := -1) d117_22 (by decide) ?_
        obtain eR := K0 _ (Option.some.inj hf).symm
        subst eR
        exact xs_iret d117_23 rt117
noncomputable def f_B_pole (v1 : Int32) (h : xH) : Option Int32 := f_B_pole_e v1 h
theorem f_B_pole_ok {g : xG} {l : Launch} {d : Nat} {v1 : Int32} {h : xH} {r : Int32} (hD : 2 ≤ d) (hf : f_B_pole v1 h = some r) : xC g l d 117 [xr 11 (some 0), xi v1] h (some (xi r)) h :=
  xC_of2 (by decide) mx117 (Nat.le_of_ble_eq_true rfl) (f_B_pole_e_ok hD hf (fun _ e => by rw [e]))
