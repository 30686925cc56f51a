theorem d84_0 : decode (xcode 84) 0 = .ok (.aload_n 0, 1) := by decide +kernel
theorem d84_1 : decode (xcode 84) 1 = .ok (.iconst 1, 1) := by decide +kernel
theorem d84_2 : decode (xcode 84) 2 = .ok (.bipush 60, 2) := by decide +kernel
theorem d84_4 : decode (xcode 84) 4 = .ok (.invokevirtual 64, 3) := by decide +kernel
theorem d84_7 : decode (xcode 84) 7 = .ok (.istore_n 1, 1) := by decide +kernel
theorem d84_8 : decode (xcode 84) 8 = .ok (.aload_n 0, 1) := by decide +kernel
theorem d84_9 : decode (xcode 84) 9 = .ok (.getfield 9, 3) := by decide +kernel
theorem d84_12 : decode (xcode 84) 12 = .ok (.invokevirtual 89, 3) := by decide +kernel
theorem d84_15 : decode (xcode 84) 15 = .ok (.ifCond .eq 53, 3) := by decide +kernel
theorem d84_18 : decode (xcode 84) 18 = .ok (.aload_n 0, 1) := by decide +kernel
theorem d84_19 : decode (xcode 84) 19 = .ok (.getfield 15, 3) := by decide +kernel
theorem d84_22 : decode (xcode 84) 22 = .ok (.getfield 86, 3) := by decide +kernel
theorem d84_25 : decode (xcode 84) 25 = .ok (.ifCond .lt 43, 3) := by decide +kernel
theorem d84_28 : decode (xcode 84) 28 = .ok (.aload_n 0, 1) := by decide +kernel
theorem d84_29 : decode (xcode 84) 29 = .ok (.getfield 15, 3) := by decide +kernel
theorem d84_32 : decode (xcode 84) 32 = .ok (.getfield 86, 3) := by decide +kernel
theorem d84_35 : decode (xcode 84) 35 = .ok (.iconst 4, 1) := by decide +kernel
theorem d84_36 : decode (xcode 84) 36 = .ok (.if_icmp .ge 32, 3) := by decide +kernel
theorem d84_39 : decode (xcode 84) 39 = .ok (.aload_n 0, 1) := by decide +kernel
theorem d84_40 : decode (xcode 84) 40 = .ok (.getfield 15, 3) := by decide +kernel
theorem d84_43 : decode (xcode 84) 43 = .ok (.getfield 108, 3) := by decide +kernel
theorem d84_46 : decode (xcode 84) 46 = .ok (.aload_n 0, 1) := by decide +kernel
theorem d84_47 : decode (xcode 84) 47 = .ok (.getfield 15, 3) := by decide +kernel
theorem d84_50 : decode (xcode 84) 50 = .ok (.getfield 86, 3) := by decide +kernel
theorem d84_53 : decode (xcode 84) 53 = .ok (.iload_n 1, 1) := by decide +kernel
theorem d84_54 : decode (xcode 84) 54 = .ok (.iastore, 1) := by decide +kernel
theorem d84_55 : decode (xcode 84) 55 = .ok (.aload_n 0, 1) := by decide +kernel
theorem d84_56 : decode (xcode 84) 56 = .ok (.getfield 15, 3) := by decide +kernel
theorem d84_59 : decode (xcode 84) 59 = .ok (.dup, 1) := by decide +kernel
theorem d84_60 : decode (xcode 84) 60 = .ok (.getfield 86, 3) := by decide +kernel
theorem d84_63 : decode (xcode 84) 63 = .ok (.iconst 1, 1) := by decide +kernel
theorem d84_64 : decode (xcode 84) 64 = .ok (.iadd, 1) := by decide +kernel
theorem d84_65 : decode (xcode 84) 65 = .ok (.putfield 86, 3) := by decide +kernel
theorem d84_68 : decode (xcode 84) 68 = .ok (.return_, 1) := by decide +kernel
noncomputable def f_TrugReader_readCarrier_e (h : xH) : Option xH :=
  (f_TrugReader_readNumber (1 : Int32) (60 : Int32) h).bind fun q3 =>
  (f_Tape_isWell q3.2).bind fun r4 =>
  if r4 = (0 : Int32) then (
  some (q3.2)) else (
  if (q3.2.1 8 4 5) < (0 : Int32) then (
  some (q3.2)) else (
  if (4 : Int32) ≤ (q3.2.1 8 4 5) then (
  some (q3.2)) else (
  if xib (q3.2.1 8 4 5) 4 then (
  xlet (xsA q3.2 41 5 (upd (q3.2.2.2.2.1 41 5) (q3.2.1 8 4 5).toNatClampNeg q3.1)) fun h10 =>
  xlet (xsI h10 8 4 5 ((h10.1 8 4 5) + (1 : Int32))) fun h11 =>
  some (h11)) else none)))
set_option maxHeartbeats 4000000 in
set_option maxRecDepth 100000 in
theorem f_TrugReader_readCarrier_e_ok {g : xG} {l : Launch} {d : Nat} {h : xH} {o : xH} {R : Option xV} {H' : xH} (hD : 2 ≤ d) (hf : f_TrugReader_readCarrier_e h = some o) (K0 : ∀ (h1 : xH), o = h1 → R = none ∧ H' = h1) : xEv g l d 84 0 [(0, xr 9 (some 0))] [] h R H' := by
  unfold f_TrugReader_readCarrier_e at hf
  refine xs_aload_n d84_0 rfl ?_
  refine xs_iconst (v := 1) d84_1 (by decide) ?_
  refine xs_bipush (v := 60) d84_2 (by decide) ?_
  obtain ⟨q3, hc2, hf⟩ := lk_b hf
  refine xe_callv1 (as := [xi (1 : Int32), xi (60 : Int32)]) (st := []) (h2 := q3.2) (d2 := d - 1) d84_4 ky84 ml22 st81 (by decide) cn81 rfl na81 (Nat.le_of_ble_eq_true rfl) (by omega) (f_TrugReader_readNumber_ok (by omega) hc2) ?_
  refine xe_istore_n (v := q3.1) (ls2 := [(0, xr 9 (some 0)), (1, xi q3.1)]) d84_7 mx84 (by decide) rfl rfl ?_
  refine xs_aload_n d84_8 rfl ?_
  refine xe_getc (j := 0) d84_9 ky84 fl55 fk9_0 rfl ?_
  obtain ⟨r4, hc5, hf⟩ := lk_b hf
  refine xe_callv1 (as := []) (st := []) (h2 := q3.2) (d2 := d - 1) d84_12 ky84 ml24 st69 (by decide) cn69 rfl na69 (Nat.le_of_ble_eq_true rfl) (by omega) (f_Tape_isWell_ok (by omega) hc5) ?_
  rcases lk_if hf with ⟨hc6, hf⟩ | ⟨hc6, hf⟩
  · refine xs_if_eq (tgt := 68) d84_15 (by decide) (fun _ => ?_) (fun hn => absurd hc6 hn)
    obtain ⟨eR, eH⟩ := K0 _ (Option.some.inj hf).symm
    subst eR; subst eH
    exact xs_vret d84_68 rt84
  · refine xs_if_eq (tgt := 68) d84_15 (by decide) (fun hp => absurd hp hc6) (fun _ => ?_)
    refine xs_aload_n d84_18 rfl ?_
    refine xe_getc (j := 5) d84_19 ky84 fl56 fk9_1 rfl ?_
    refine xe_geti d84_22 ky84 fl34 fk8_4 ?_
    rcases lk_if hf with ⟨hc7, hf⟩ | ⟨hc7, hf⟩
    · refine xs_if_lt (tgt := 68) d84_25 (by decide) (fun _ => ?_) (fun hn => absurd hc7 hn)
      obtain ⟨eR, eH⟩ := K0 _ (Option.some.inj hf).symm
      subst eR; subst eH
      exact xs_vret d84_68 rt84
    · refine xs_if_lt (tgt := 68) d84_25 (by decide) (fun hp => absurd hp hc7) (fun _ => ?_)
      refine xs_aload_n d84_28 rfl ?_
      refine xe_getc (j := 5) d84_29 ky84 fl56 fk9_1 rfl ?_
      refine xe_geti d84_32 ky84 fl34 fk8_4 ?_
      refine xs_iconst (v := 4) d84_35 (by decide) ?_
      rcases lk_if hf with ⟨hc8, hf⟩ | ⟨hc8, hf⟩
      · refine xs_icmp_ge (tgt := 68) d84_36 (by decide) (fun _ => ?_) (fun hn => absurd hc8 hn)
        obtain ⟨eR, eH⟩ := K0 _ (Option.some.inj hf).symm
        subst eR; subst eH
        exact xs_vret d84_68 rt84
      · refine xs_icmp_ge (tgt := 68) d84_36 (by decide) (fun hp => absurd hp hc8) (fun _ => ?_)
        refine xs_aload_n d84_39 rfl ?_
        refine xe_getc (j := 5) d84_40 ky84 fl56 fk9_1 rfl ?_
        refine xe_getc (j := 5) d84_43 ky84 fl54 fk8_9 rfl ?_
        refine xs_aload_n d84_46 rfl ?_
        refine xe_getc (j := 5) d84_47 ky84 fl56 fk9_1 rfl ?_
        refine xe_geti d84_50 ky84 fl34 fk8_4 ?_
        refine xs_iload_n d84_53 rfl ?_
        obtain ⟨hin9, hf⟩ := lk_g hf
        obtain ⟨h10, eh10, hf⟩ := lk_let hf
        refine xe_iast d84_54 (by decide) ak41 hin9  eh10 ?_
        refine xs_aload_n d84_55 rfl ?_
        refine xe_getc (j := 5) d84_56 ky84 fl56 fk9_1 rfl ?_
        refine xs_dup d84_59 rfl ?_
        refine xe_geti d84_60 ky84 fl34 fk8_4 ?_
        refine xs_iconst (v := 1) d84_63 (by decide) ?_
        refine xs_iadd d84_64 ?_
        obtain ⟨h11, eh11, hf⟩ := lk_let hf
        refine xe_puti d84_65 ky84 fl34 fk8_4 ft8_4 eh11 ?_
        obtain ⟨eR, eH⟩ := K0 _ (Option.some.inj hf).symm
        subst eR; subst eH
        exact xs_vret d84_68 rt84
noncomputable def f_TrugReader_readCarrier (h : xH) : Option xH := f_TrugReader_readCarrier_e h
theorem f_TrugReader_readCarrier_ok {g : xG} {l : Launch} {d : Nat} {h : xH} {h1 : xH} (hD : 2 ≤ d) (hf : f_TrugReader_readCarrier h = some h1) : xC g l d 84 [xr 9 (some 0)] h none h1 :=
  xC_of (by decide) (Nat.le_of_ble_eq_true rfl) (f_TrugReader_readCarrier_e_ok hD hf (fun _ e => ⟨rfl, e⟩))
theorem d79_0 : decode (xcode 79) 0 = .ok (.aload_n 0, 1) := by decide +kernel
theorem d79_1 : decode (xcode 79) 1 = .ok (.getfield 9, 3) := by decide +kernel
theorem d79_4 : decode (xcode 79) 4 = .ok (.getfield 47, 3) := by decide +kernel
theorem d79_7 : decode (xcode 79) 7 = .ok (.iconst 1, 1) := by decide +kernel
theorem d79_8 : decode (xcode 79) 8 = .ok (.if_icmp .ne 13, 3) := by decide +kernel
theorem d79_11 : decode (xcode 79) 11 = .ok (.aload_n 0, 1) := by decide +kernel
theorem d79_12 : decode (xcode 79) 12 = .ok (.getfield 9, 3) := by decide +kernel
theorem d79_15 : decode (xcode 79) 15 = .ok (.getfield 50, 3) := by decide +kernel
theorem d79_18 : decode (xcode 79) 18 = .ok (.goto 4, 3) := by decide +kernel
theorem d79_21 : decode (xcode 79) 21 = .ok (.iconst (-1), 1) := by decide +kernel
theorem d79_22 : decode (xcode 79) 22 = .ok (.istore_n 1, 1) := by decide +kernel
theorem d79_23 : decode (xcode 79) 23 = .ok (.iload_n 1, 1) := by decide +kernel
theorem d79_24 : decode (xcode 79) 24 = .ok (.bipush 12, 2) := by decide +kernel
theorem d79_26 : decode (xcode 79) 26 = .ok (.if_icmp .eq 28, 3) := by decide +kernel
theorem d79_29 : decode (xcode 79) 29 = .ok (.iload_n 1, 1) := by decide +kernel
theorem d79_30 : decode (xcode 79) 30 = .ok (.ifCond .eq 24, 3) := by decide +kernel
theorem d79_33 : decode (xcode 79) 33 = .ok (.iload_n 1, 1) := by decide +kernel
theorem d79_34 : decode (xcode 79) 34 = .ok (.bipush 13, 2) := by decide +kernel
theorem d79_36 : decode (xcode 79) 36 = .ok (.if_icmp .eq 18, 3) := by decide +kernel
theorem d79_39 : decode (xcode 79) 39 = .ok (.iload_n 1, 1) := by decide +kernel
theorem d79_40 : decode (xcode 79) 40 = .ok (.bipush 14, 2) := by decide +kernel
theorem d79_42 : decode (xcode 79) 42 = .ok (.if_icmp .eq 12, 3) := by decide +kernel
theorem d79_45 : decode (xcode 79) 45 = .ok (.aload_n 0, 1) := by decide +kernel
theorem d79_46 : decode (xcode 79) 46 = .ok (.getfield 9, 3) := by decide +kernel
theorem d79_49 : decode (xcode 79) 49 = .ok (.iconst 0, 1) := by decide +kernel
theorem d79_50 : decode (xcode 79) 50 = .ok (.invokevirtual 53, 3) := by decide +kernel
theorem d79_53 : decode (xcode 79) 53 = .ok (.return_, 1) := by decide +kernel
theorem d79_54 : decode (xcode 79) 54 = .ok (.aload_n 0, 1) := by decide +kernel
theorem d79_55 : decode (xcode 79) 55 = .ok (.iload_n 1, 1) := by decide +kernel
theorem d79_56 : decode (xcode 79) 56 = .ok (.invokevirtual 57, 3) := by decide +kernel
theorem d79_59 : decode (xcode 79) 59 = .ok (.ifCond .eq 12, 3) := by decide +kernel
theorem d79_62 : decode (xcode 79) 62 = .ok (.aload_n 0, 1) := by decide +kernel
theorem d79_63 : decode (xcode 79) 63 = .ok (.getfield 9, 3) := by decide +kernel
theorem d79_66 : decode (xcode 79) 66 = .ok (.iconst 4, 1) := by decide +kernel
theorem d79_67 : decode (xcode 79) 67 = .ok (.invokevirtual 53, 3) := by decide +kernel
theorem d79_70 : decode (xcode 79) 70 = .ok (.return_, 1) := by decide +kernel
theorem d79_71 : decode (xcode 79) 71 = .ok (.aload_n 0, 1) := by decide +kernel
theorem d79_72 : decode (xcode 79) 72 = .ok (.dup, 1) := by decide +kernel
theorem d79_73 : decode (xcode 79) 73 = .ok (.getfield 28, 3) := by decide +kernel
theorem d79_76 : decode (xcode 79) 76 = .ok (.iconst 1, 1) := by decide +kernel
theorem d79_77 : decode (xcode 79) 77 = .ok (.iadd, 1) := by decide +kernel
theorem d79_78 : decode (xcode 79) 78 = .ok (.putfield 28, 3) := by decide +kernel
theorem d79_81 : decode (xcode 79) 81 = .ok (.aload_n 0, 1) := by decide +kernel
theorem d79_82 : decode (xcode 79) 82 = .ok (.getfield 9, 3) := by decide +kernel
theorem d79_85 : decode (xcode 79) 85 = .ok (.invokevirtual 61, 3) := by decide +kernel
theorem d79_88 : decode (xcode 79) 88 = .ok (.iload_n 1, 1) := by decide +kernel
theorem d79_89 : decode (xcode 79) 89 = .ok (.bipush 12, 2) := by decide +kernel
theorem d79_91 : decode (xcode 79) 91 = .ok (.if_icmp .ne 35, 3) := by decide +kernel
theorem d79_94 : decode (xcode 79) 94 = .ok (.aload_n 0, 1) := by decide +kernel
theorem d79_95 : decode (xcode 79) 95 = .ok (.getfield 15, 3) := by decide +kernel
theorem d79_98 : decode (xcode 79) 98 = .ok (.aload_n 0, 1) := by decide +kernel
theorem d79_99 : decode (xcode 79) 99 = .ok (.iconst 1, 1) := by decide +kernel
theorem d79_100 : decode (xcode 79) 100 = .ok (.sipush 300, 3) := by decide +kernel
theorem d79_103 : decode (xcode 79) 103 = .ok (.invokevirtual 64, 3) := by decide +kernel
theorem d79_106 : decode (xcode 79) 106 = .ok (.putfield 68, 3) := by decide +kernel
theorem d79_109 : decode (xcode 79) 109 = .ok (.aload_n 0, 1) := by decide +kernel
theorem d79_110 : decode (xcode 79) 110 = .ok (.getfield 15, 3) := by decide +kernel
theorem d79_113 : decode (xcode 79) 113 = .ok (.aload_n 0, 1) := by decide +kernel
theorem d79_114 : decode (xcode 79) 114 = .ok (.iconst 0, 1) := by decide +kernel
theorem d79_115 : decode (xcode 79) 115 = .ok (.bipush 20, 2) := by decide +kernel
theorem d79_117 : decode (xcode 79) 117 = .ok (.invokevirtual 64, 3) := by decide +kernel
theorem d79_120 : decode (xcode 79) 120 = .ok (.putfield 71, 3) := by decide +kernel
theorem d79_123 : decode (xcode 79) 123 = .ok (.goto 31, 3) := by decide +kernel
theorem d79_126 : decode (xcode 79) 126 = .ok (.iload_n 1, 1) := by decide +kernel
theorem d79_127 : decode (xcode 79) 127 = .ok (.ifCond .ne 10, 3) := by decide +kernel
theorem d79_130 : decode (xcode 79) 130 = .ok (.aload_n 0, 1) := by decide +kernel
theorem d79_131 : decode (xcode 79) 131 = .ok (.invokevirtual 74, 3) := by decide +kernel
theorem d79_134 : decode (xcode 79) 134 = .ok (.goto 20, 3) := by decide +kernel
theorem d79_137 : decode (xcode 79) 137 = .ok (.iload_n 1, 1) := by decide +kernel
theorem d79_138 : decode (xcode 79) 138 = .ok (.bipush 13, 2) := by decide +kernel
theorem d79_140 : decode (xcode 79) 140 = .ok (.if_icmp .ne 10, 3) := by decide +kernel
theorem d79_143 : decode (xcode 79) 143 = .ok (.aload_n 0, 1) := by decide +kernel
theorem d79_144 : decode (xcode 79) 144 = .ok (.invokevirtual 77, 3) := by decide +kernel
theorem d79_147 : decode (xcode 79) 147 = .ok (.goto 7, 3) := by decide +kernel
theorem d79_150 : decode (xcode 79) 150 = .ok (.aload_n 0, 1) := by decide +kernel
theorem d79_151 : decode (xcode 79) 151 = .ok (.invokevirtual 80, 3) := by decide +kernel
theorem d79_154 : decode (xcode 79) 154 = .ok (.return_, 1) := by decide +kernel
noncomputable def f_TrugReader_readClause_b54 (v1 : Int32) (h : xH) : Option xH :=
  (f_TrugReader_isTooMany v1 h).bind fun r3 =>
  if r3 = (0 : Int32) then (
  xlet (xsI h 9 2 0 ((h.1 9 2 0) + (1 : Int32))) fun h6 =>
  (f_Tape_goOn h6).bind fun h9 =>
  if v1 = (12 : Int32) then (
  (f_TrugReader_readNumber (1 : Int32) (300 : Int32) h9).bind fun q13 =>
  xlet (xsI q13.2 8 1 5 q13.1) fun h14 =>
  (f_TrugReader_readNumber (0 : Int32) (20 : Int32) h14).bind fun q17 =>
  xlet (xsI q17.2 8 2 5 q17.1) fun h18 =>
  some (h18)) else (
  if v1 = (0 : Int32) then (
  (f_TrugReader_readSorrow h9).bind fun h22 =>
  some (h22)) else (
  if v1 = (13 : Int32) then (
  (f_TrugReader_readUnder h9).bind fun h26 =>
  some (h26)) else (
  (f_TrugReader_readCarrier h9).bind fun h29 =>
  some (h29))))) else (
  (f_Tape_fail (4 : Int32) h).bind fun h32 =>
  some (h32))
set_option maxHeartbeats 4000000 in
set_option maxRecDepth 100000 in
theorem f_TrugReader_readClause_b54_ok {g : xG} {l : Launch} {d : Nat} {v1 : Int32} {h : xH} {o : xH} {R : Option xV} {H' : xH} (hD : 3 ≤ d) (hf : f_TrugReader_readClause_b54 v1 h = some o) (K0 : ∀ (h1 : xH), o = h1 → R = none ∧ H' = h1) : xEv g l d 79 54 [(0, xr 9 (some 0)), (1, xi v1)] [] h R H' := by
  unfold f_TrugReader_readClause_b54 at hf
  refine xs_aload_n d79_54 rfl ?_
  refine xs_iload_n d79_55 rfl ?_
  obtain ⟨r3, hc4, hf⟩ := lk_b hf
  refine xe_callv1 (as := [xi v1]) (st := []) (h2 := h) (d2 := d - 1) d79_56 ky79 ml20 st80 (by decide) cn80 rfl na80 (Nat.le_of_ble_eq_true rfl) (by omega) (f_TrugReader_isTooMany_ok (by omega) hc4) ?_
  rcases lk_if hf with ⟨hc5, hf⟩ | ⟨hc5, hf⟩
  · refine xs_if_eq (tgt := 71) d79_59 (by decide) (fun _ => ?_) (fun hn => absurd hc5 hn)
    refine xs_aload_n d79_71 rfl ?_
    refine xs_dup d79_72 rfl ?_
    refine xe_geti d79_73 ky79 fl57 fk9_2 ?_
    refine xs_iconst (v := 1) d79_76 (by decide) ?_
    refine xs_iadd d79_77 ?_
    obtain ⟨h6, eh6, hf⟩ := lk_let hf
    refine xe_puti d79_78 ky79 fl57 fk9_2 ft9_2 eh6 ?_
    refine xs_aload_n d79_81 rfl ?_
    refine xe_getc (j := 0) d79_82 ky79 fl55 fk9_0 rfl ?_
    obtain ⟨h9, hc8, hf⟩ := lk_b hf
    refine xe_callv0 (as := []) (st := []) (h2 := h9) (d2 := d - 1) d79_85 ky79 ml21 st68 (by decide) cn68 rfl na68 (Nat.le_of_ble_eq_true rfl) (by omega) (f_Tape_goOn_ok (by omega) hc8) ?_
    refine xs_iload_n d79_88 rfl ?_
    refine xs_bipush (v := 12) d79_89 (by decide) ?_
    rcases lk_if hf with ⟨hc10, hf⟩ | ⟨hc10, hf⟩
    · refine xs_icmp_ne (tgt := 126) d79_91 (by decide) (fun _ => ?_) (fun hn => absurd hc10 hn)
      refine xs_aload_n d79_94 rfl ?_
      refine xe_getc (j := 5) d79_95 ky79 fl56 fk9_1 rfl ?_
      refine xs_aload_n d79_98 rfl ?_
      refine xs_iconst (v := 1) d79_99 (by decide) ?_
      refine xs_sipush (v := 300) d79_100 (by decide) ?_
      obtain ⟨q13, hc12, hf⟩ := lk_b hf
      refine xe_callv1 (as := [xi (1 : Int32), xi (300 : Int32)]) (st := [xr 8 (some 5)]) (h2 := q13.2) (d2 := d - 1) d79_103 ky79 ml22 st81 (by decide) cn81 rfl na81 (Nat.le_of_ble_eq_true rfl) (by omega) (f_TrugReader_readNumber_ok (by omega) hc12) ?_
      obtain ⟨h14, eh14, hf⟩ := lk_let hf
      refine xe_puti d79_106 ky79 fl21 fk8_1 ft8_1 eh14 ?_
      refine xs_aload_n d79_109 rfl ?_
      refine xe_getc (j := 5) d79_110 ky79 fl56 fk9_1 rfl ?_
      refine xs_aload_n d79_113 rfl ?_
      refine xs_iconst (v := 0) d79_114 (by decide) ?_
      refine xs_bipush (v := 20) d79_115 (by decide) ?_
      obtain ⟨q17, hc16, hf⟩ := lk_b hf
      refine xe_callv1 (as := [xi (0 : Int32), xi (20 : Int32)]) (st := [xr 8 (some 5)]) (h2 := q17.2) (d2 := d - 1) d79_117 ky79 ml22 st81 (by decide) cn81 rfl na81 (Nat.le_of_ble_eq_true rfl) (by omega) (f_TrugReader_readNumber_ok (by omega) hc16) ?_
      obtain ⟨h18, eh18, hf⟩ := lk_let hf
      refine xe_puti d79_120 ky79 fl26 fk8_2 ft8_2 eh18 ?_
      refine xs_goto (tgt := 154) d79_123 (by decide) ?_
      obtain ⟨eR, eH⟩ := K0 _ (Option.some.inj hf).symm
      subst eR; subst eH
      exact xs_vret d79_154 rt79
    · refine xs_icmp_ne (tgt := 126) d79_91 (by decide) (fun hp => absurd hp hc10) (fun _ => ?_)
      refine xs_iload_n d79_126 rfl ?_
      rcases lk_if hf with ⟨hc19, hf⟩ | ⟨hc19, hf⟩
      · refine xs_if_ne (tgt := 137) d79_127 (by decide) (fun _ => ?_) (fun hn => absurd hc19 hn)
        refine xs_aload_n d79_130 rfl ?_
        obtain ⟨h22, hc21, hf⟩ := lk_b hf
        refine xe_callv0 (as := []) (st := []) (h2 := h22) (d2 := d - 1) d79_131 ky79 ml23 st82 (by decide) cn82 rfl na82 (Nat.le_of_ble_eq_true rfl) (by omega) (f_TrugReader_readSorrow_ok (by omega) hc21) ?_
        refine xs_goto (tgt := 154) d79_134 (by decide) ?_
        obtain ⟨eR, eH⟩ := K0 _ (Option.some.inj hf).symm
        subst eR; subst eH
        exact xs_vret d79_154 rt79
      · refine xs_if_ne (tgt := 137) d79_127 (by decide) (fun hp => absurd hp hc19) (fun _ => ?_)
        refine xs_iload_n d79_137 rfl ?_
        refine xs_bipush (v := 13) d79_138 (by decide) ?_
        rcases lk_if hf with ⟨hc23, hf⟩ | ⟨hc23, hf⟩
        · refine xs_icmp_ne (tgt := 150) d79_140 (by decide) (fun _ => ?_) (fun hn => absurd hc23 hn)
          refine xs_aload_n d79_143 rfl ?_
          obtain ⟨h26, hc25, hf⟩ := lk_b hf
          refine xe_callv0 (as := []) (st := []) (h2 := h26) (d2 := d - 1) d79_144 ky79 ml25 st83 (by decide) cn83 rfl na83 (Nat.le_of_ble_eq_true rfl) (by omega) (f_TrugReader_readUnder_ok (by omega) hc25) ?_
          refine xs_goto (tgt := 154) d79_147 (by decide) ?_
          obtain ⟨eR, eH⟩ := K0 _ (Option.some.inj hf).symm
          subst eR; subst eH
          exact xs_vret d79_154 rt79
        · refine xs_icmp_ne (tgt := 150) d79_140 (by decide) (fun hp => absurd hp hc23) (fun _ => ?_)
          refine xs_aload_n d79_150 rfl ?_
          obtain ⟨h29, hc28, hf⟩ := lk_b hf
          refine xe_callv0 (as := []) (st := []) (h2 := h29) (d2 := d - 1) d79_151 ky79 ml27 st84 (by decide) cn84 rfl na84 (Nat.le_of_ble_eq_true rfl) (by omega) (f_TrugReader_readCarrier_ok (by omega) hc28) ?_
          obtain ⟨eR, eH⟩ := K0 _ (Option.some.inj hf).symm
          subst eR; subst eH
          exact xs_vret d79_154 rt79
  · refine xs_if_eq (tgt := 71) d79_59 (by decide) (fun hp => absurd hp hc5) (fun _ => ?_)
    refine xs_aload_n d79_62 rfl ?_
    refine xe_getc (j := 0) d79_63 ky79 fl55 fk9_0 rfl ?_
    refine xs_iconst (v := 4) d79_66 (by decide) ?_
    obtain ⟨h32, hc31, hf⟩ := lk_b hf
    refine xe_callv0 (as := [xi (4 : Int32)]) (st := []) (h2 := h32) (d2 := d - 1) d79_67 ky79 ml19 st70 (by decide) cn70 rfl na70 (Nat.le_of_ble_eq_true rfl) (by omega) (f_Tape_fail_ok (by omega) hc31) ?_
    obtain ⟨eR, eH⟩ := K0 _ (Option.some.inj hf).symm
    subst eR; subst eH
    exact xs_vret d79_70 rt79
noncomputable def f_TrugReader_readClause_b22 (t0 : Int32) (h : xH) : Option xH :=
  if t0 = (12 : Int32) then (
  f_TrugReader_readClause_b54 t0 h) else (
  if t0 = (0 : Int32) then (
  f_TrugReader_readClause_b54 t0 h) else (
  if t0 = (13 : Int32) then (
  f_TrugReader_readClause_b54 t0 h) else (
  if t0 = (14 : Int32) then (
  f_TrugReader_readClause_b54 t0 h) else (
  (f_Tape_fail (0 : Int32) h).bind fun h38 =>
  some (h38)))))
set_option maxHeartbeats 4000000 in
set_option maxRecDepth 100000 in
theorem f_TrugReader_readClause_b22_ok {g : xG} {l : Launch} {d : Nat} {t0 : Int32} {h : xH} {o : xH} {R : Option xV} {H' : xH} (hD : 3 ≤ d) (hf : f_TrugReader_readClause_b22 t0 h = some o) (K0 : ∀ (h1 : xH), o = h1 → R = none ∧ H' = h1) : xEv g l d 79 22 [(0, xr 9 (some 0))] [xi t0] h R H' := by
  unfold f_TrugReader_readClause_b22 at hf
  refine xe_istore_n (v := t0) (ls2 := [(0, xr 9 (some 0)), (1, xi t0)]) d79_22 mx79 (by decide) rfl rfl ?_
  refine xs_iload_n d79_23 rfl ?_
  refine xs_bipush (v := 12) d79_24 (by decide) ?_
  rcases lk_if hf with ⟨hc2, hf⟩ | ⟨hc2, hf⟩
  · refine xs_icmp_eq (tgt := 54) d79_26 (by decide) (fun _ => ?_) (fun hn => absurd hc2 hn)
    exact f_TrugReader_readClause_b54_ok hD hf K0
  · refine xs_icmp_eq (tgt := 54) d79_26 (by decide) (fun hp => absurd hp hc2) (fun _ => ?_)
    refine xs_iload_n d79_29 rfl ?_
    rcases lk_if hf with ⟨hc33, hf⟩ | ⟨hc33, hf⟩
    · refine xs_if_eq (tgt := 54) d79_30 (by decide) (fun _ => ?_) (fun hn => absurd hc33 hn)
      exact f_TrugReader_readClause_b54_ok hD hf K0
    · refine xs_if_eq (tgt := 54) d79_30 (by decide) (fun hp => absurd hp hc33) (fun _ => ?_)
      refine xs_iload_n d79_33 rfl ?_
      refine xs_bipush (v := 13) d79_34 (by decide) ?_
      rcases lk_if hf with ⟨hc34, hf⟩ | ⟨hc34, hf⟩
      · refine xs_icmp_eq (tgt := 54) d79_36 (by decide) (fun _ => ?_) (fun hn => absurd hc34 hn)
        exact f_TrugReader_readClause_b54_ok hD hf K0
      · refine xs_icmp_eq (tgt := 54) d79_36 (by decide) (fun hp => absurd hp hc34) (fun _ => ?_)
        refine xs_iload_n d79_39 rfl ?_
        refine xs_bipush (v := 14) d79_40 (by decide) ?_
        rcases lk_if hf with ⟨hc35, hf⟩ | ⟨hc35, hf⟩
        · refine xs_icmp_eq (tgt := 54) d79_42 (by decide) (fun _ => ?_) (fun hn => absurd hc35 hn)
          exact f_TrugReader_readClause_b54_ok hD hf K0
        · refine xs_icmp_eq (tgt := 54) d79_42 (by decide) (fun hp => absurd hp hc35) (fun _ => ?_)
          refine xs_aload_n d79_45 rfl ?_
          refine xe_getc (j := 0) d79_46 ky79 fl55 fk9_0 rfl ?_
          refine xs_iconst (v := 0) d79_49 (by decide) ?_
          obtain ⟨h38, hc37, hf⟩ := lk_b hf
          refine xe_callv0 (as := [xi (0 : Int32)]) (st := []) (h2 := h38) (d2 := d - 1) d79_50 ky79 ml19 st70 (by decide) cn70 rfl na70 (Nat.le_of_ble_eq_true rfl) (by omega) (f_Tape_fail_ok (by omega) hc37) ?_
          obtain ⟨eR, eH⟩ := K0 _ (Option.some.inj hf).symm
          subst eR; subst eH
          exact xs_vret d79_53 rt79
noncomputable def f_TrugReader_readClause_e (h : xH) : Option xH :=
  if (h.1 7 7 0) = (1 : Int32) then (
  f_TrugReader_readClause_b22 (h.1 7 8 0) h) else (
  f_TrugReader_readClause_b22 (-1 : Int32) h)
set_option maxHeartbeats 4000000 in
set_option maxRecDepth 100000 in
theorem f_TrugReader_readClause_e_ok {g : xG} {l : Launch} {d : Nat} {h : xH} {o : xH} {R : Option xV} {H' : xH} (hD : 3 ≤ d) (hf : f_TrugReader_readClause_e h = some o) (K0 : ∀ (h1 : xH), o = h1 → R = none ∧ H' = h1) : xEv g l d 79 0 [(0, xr 9 (some 0))] [] h R H' := by
  unfold f_TrugReader_readClause_e at hf
  refine xs_aload_n d79_0 rfl ?_
  refine xe_getc (j := 0) d79_1 ky79 fl55 fk9_0 rfl ?_
  refine xe_geti d79_4 ky79 fl8 fk7_7 ?_
  refine xs_iconst (v := 1) d79_7 (by decide) ?_
  rcases lk_if hf with ⟨hc1, hf⟩ | ⟨hc1, hf⟩
  · refine xs_icmp_ne (tgt := 21) d79_8 (by decide) (fun _ => ?_) (fun hn => absurd hc1 hn)
    refine xs_aload_n d79_11 rfl ?_
    refine xe_getc (j := 0) d79_12 ky79 fl55 fk9_0 rfl ?_
    refine xe_geti d79_15 ky79 fl11 fk7_8 ?_
    refine xs_goto (tgt := 22) d79_18 (by decide) ?_
    exact f_TrugReader_readClause_b22_ok hD hf K0
  · refine xs_icmp_ne (tgt := 21) d79_8 (by decide) (fun hp => absurd hp hc1) (fun _ => ?_)
    refine xs_iconst (v := -1) d79_21 (by decide) ?_
    exact f_TrugReader_readClause_b22_ok hD hf K0
noncomputable def f_TrugReader_readClause (h : xH) : Option xH := f_TrugReader_readClause_e h
theorem f_TrugReader_readClause_ok {g : xG} {l : Launch} {d : Nat} {h : xH} {h1 : xH} (hD : 3 ≤ d) (hf : f_TrugReader_readClause h = some h1) : xC g l d 79 [xr 9 (some 0)] h none h1 :=
  xC_of (by decide) (Nat.le_of_ble_eq_true rfl) (f_TrugReader_readClause_e_ok hD hf (fun _ e => ⟨rfl, e⟩))
theorem d85_0 : decode (xcode 85) 0 = .ok (.aload_n 0, 1) := by decide +kernel
theorem d85_1 : decode (xcode 85) 1 = .ok (.aload_n 1, 1) := by decide +kernel
theorem d85_2 : decode (xcode 85) 2 = .ok (.putfield 27, 3) := by decide +kernel
theorem d85_5 : decode (xcode 85) 5 = .ok (.aload_n 0, 1) := by decide +kernel
theorem d85_6 : decode (xcode 85) 6 = .ok (.aload_n 3, 1) := by decide +kernel
theorem d85_7 : decode (xcode 85) 7 = .ok (.putfield 31, 3) := by decide +kernel
theorem d85_10 : decode (xcode 85) 10 = .ok (.aload_n 0, 1) := by decide +kernel
theorem d85_11 : decode (xcode 85) 11 = .ok (.iconst 0, 1) := by decide +kernel
theorem d85_12 : decode (xcode 85) 12 = .ok (.putfield 35, 3) := by decide +kernel
theorem d85_15 : decode (xcode 85) 15 = .ok (.aload_n 0, 1) := by decide +kernel
theorem d85_16 : decode (xcode 85) 16 = .ok (.getfield 12, 3) := by decide +kernel
theorem d85_19 : decode (xcode 85) 19 = .ok (.aload_n 2, 1) := by decide +kernel
theorem d85_20 : decode (xcode 85) 20 = .ok (.invokevirtual 39, 3) := by decide +kernel
theorem d85_23 : decode (xcode 85) 23 = .ok (.return_, 1) := by decide +kernel
noncomputable def f_Walk_start_e (i1 : Nat) (i2 : Nat) (v3 : Option Nat) (h : xH) : Option xH :=
  xlet (xsR h 10 3 0 (some i1)) fun h1 =>
  xlet (xsR h1 10 4 0 (v3)) fun h2 =>
  xlet (xsI h2 10 1 0 (0 : Int32)) fun h3 =>
  (f_State_copyFrom 25 i2 h3).bind fun h6 =>
  some (h6)
set_option maxHeartbeats 4000000 in
set_option maxRecDepth 100000 in
theorem f_Walk_start_e_ok {g : xG} {l : Launch} {d : Nat} {i1 : Nat} {i2 : Nat} {v3 : Option Nat} {h : xH} {o : xH} {R : Option xV} {H' : xH} (hD : 2 ≤ d) (hf : f_Walk_start_e i1 i2 v3 h = some o) (K0 : ∀ (h1 : xH), o = h1 → R = none ∧ H' = h1) : xEv g l d 85 0 [(0, xr 10 (some 0)), (1, xr 8 (some i1)), (2, xr 6 (some i2)), (3, xr 2 (v3))] [] h R H' := by
  unfold f_Walk_start_e at hf
  refine xs_aload_n d85_0 rfl ?_
  refine xs_aload_n d85_1 rfl ?_
  obtain ⟨h1, eh1, hf⟩ := lk_let hf
  refine xe_putd d85_2 ky85 fl116 fk10_3 ft10_3 eh1 ?_
  refine xs_aload_n d85_5 rfl ?_
  refine xs_aload_n d85_6 rfl ?_
  obtain ⟨h2, eh2, hf⟩ := lk_let hf
  refine xe_putd d85_7 ky85 fl117 fk10_4 ft10_4 eh2 ?_
  refine xs_aload_n d85_10 rfl ?_
  refine xs_iconst (v := 0) d85_11 (by decide) ?_
  obtain ⟨h3, eh3, hf⟩ := lk_let hf
  refine xe_putz d85_12 ky85 fl113 fk10_1 ft10_1 (Or.inl rfl) eh3 ?_
  refine xs_aload_n d85_15 rfl ?_
  refine xe_getc (j := 25) d85_16 ky85 fl111 fk10_0 rfl ?_
  refine xs_aload_n d85_19 rfl ?_
  obtain ⟨h6, hc5, hf⟩ := lk_b hf
  refine xe_callv0 (as := [xr 6 (some i2)]) (st := []) (h2 := h6) (d2 := d - 1) d85_20 ky85 ml70 st46 (by decide) cn46 rfl na46 (Nat.le_of_ble_eq_true rfl) (by omega) (f_State_copyFrom_ok (by omega) hc5) ?_
  obtain ⟨eR, eH⟩ := K0 _ (Option.some.inj hf).symm
  subst eR; subst eH
  exact xs_vret d85_23 rt85
noncomputable def f_Walk_start (i1 : Nat) (i2 : Nat) (v3 : Option Nat) (h : xH) : Option xH := f_Walk_start_e i1 i2 v3 h
theorem f_Walk_start_ok {g : xG} {l : Launch} {d : Nat} {i1 : Nat} {i2 : Nat} {v3 : Option Nat} {h : xH} {h1 : xH} (hD : 2 ≤ d) (hf : f_Walk_start i1 i2 v3 h = some h1) : xC g l d 85 [xr 10 (some 0), xr 8 (some i1), xr 6 (some i2), xr 2 (v3)] h none h1 :=
  xC_of (by decide) (Nat.le_of_ble_eq_true rfl) (f_Walk_start_e_ok hD hf (fun _ e => ⟨rfl, e⟩))
theorem d86_0 : decode (xcode 86) 0 = .ok (.aload_n 0, 1) := by decide +kernel
theorem d86_1 : decode (xcode 86) 1 = .ok (.aload_n 1, 1) := by decide +kernel
theorem d86_2 : decode (xcode 86) 2 = .ok (.putfield 27, 3) := by decide +kernel
theorem d86_5 : decode (xcode 86) 5 = .ok (.aload_n 0, 1) := by decide +kernel
theorem d86_6 : decode (xcode 86) 6 = .ok (.aload_n 2, 1) := by decide +kernel
theorem d86_7 : decode (xcode 86) 7 = .ok (.putfield 31, 3) := by decide +kernel
theorem d86_10 : decode (xcode 86) 10 = .ok (.aload_n 0, 1) := by decide +kernel
theorem d86_11 : decode (xcode 86) 11 = .ok (.iconst 0, 1) := by decide +kernel
theorem d86_12 : decode (xcode 86) 12 = .ok (.putfield 35, 3) := by decide +kernel
theorem d86_15 : decode (xcode 86) 15 = .ok (.aload_n 0, 1) := by decide +kernel
theorem d86_16 : decode (xcode 86) 16 = .ok (.getfield 12, 3) := by decide +kernel
theorem d86_19 : decode (xcode 86) 19 = .ok (.aload_n 1, 1) := by decide +kernel
theorem d86_20 : decode (xcode 86) 20 = .ok (.invokevirtual 43, 3) := by decide +kernel
theorem d86_23 : decode (xcode 86) 23 = .ok (.return_, 1) := by decide +kernel
noncomputable def f_Walk_startAnew_e (i1 : Nat) (v2 : Option Nat) (h : xH) : Option xH :=
  xlet (xsR h 10 3 0 (some i1)) fun h1 =>
  xlet (xsR h1 10 4 0 (v2)) fun h2 =>
  xlet (xsI h2 10 1 0 (0 : Int32)) fun h3 =>
  (f_State_begin 25 i1 h3).bind fun h6 =>
  some (h6)
set_option maxHeartbeats 4000000 in
set_option maxRecDepth 100000 in
theorem f_Walk_startAnew_e_ok {g : xG} {l : Launch} {d : Nat} {i1 : Nat} {v2 : Option Nat} {h : xH} {o : xH} {R : Option xV} {H' : xH} (hD : 2 ≤ d) (hf : f_Walk_startAnew_e i1 v2 h = some o) (K0 : ∀ (h1 : xH), o = h1 → R = none ∧ H' = h1) : xEv g l d 86 0 [(0, xr 10 (some 0)), (1, xr 8 (some i1)), (2, xr 2 (v2))] [] h R H' := by
  unfold f_Walk_startAnew_e at hf
  refine xs_aload_n d86_0 rfl ?_
  refine xs_aload_n d86_1 rfl ?_
  obtain ⟨h1, eh1, hf⟩ := lk_let hf
  refine xe_putd d86_2 ky86 fl116 fk10_3 ft10_3 eh1 ?_
  refine xs_aload_n d86_5 rfl ?_
  refine xs_aload_n d86_6 rfl ?_
  obtain ⟨h2, eh2, hf⟩ := lk_let hf
  refine xe_putd d86_7 ky86 fl117 fk10_4 ft10_4 eh2 ?_
  refine xs_aload_n d86_10 rfl ?_
  refine xs_iconst (v := 0) d86_11 (by decide) ?_
  obtain ⟨h3, eh3, hf⟩ := lk_let hf
  refine xe_putz d86_12 ky86 fl113 fk10_1 ft10_1 (Or.inl rfl) eh3 ?_
  refine xs_aload_n d86_15 rfl ?_
  refine xe_getc (j := 25) d86_16 ky86 fl111 fk10_0 rfl ?_
  refine xs_aload_n d86_19 rfl ?_
  obtain ⟨h6, hc5, hf⟩ := lk_b hf
  refine xe_callv0 (as := [xr 8 (some i1)]) (st := []) (h2 := h6) (d2 := d - 1) d86_20 ky86 ml157 st45 (by decide) cn45 rfl na45 (Nat.le_of_ble_eq_true rfl) (by omega) (f_State_begin_ok (by omega) hc5) ?_
  obtain ⟨eR, eH⟩ := K0 _ (Option.some.inj hf).symm
  subst eR; subst eH
  exact xs_vret d86_23 rt86
noncomputable def f_Walk_startAnew (i1 : Nat) (v2 : Option Nat) (h : xH) : Option xH := f_Walk_startAnew_e i1 v2 h
theorem f_Walk_startAnew_ok {g : xG} {l : Launch} {d : Nat} {i1 : Nat} {v2 : Option Nat} {h : xH} {h1 : xH} (hD : 2 ≤ d) (hf : f_Walk_startAnew i1 v2 h = some h1) : xC g l d 86 [xr 10 (some 0), xr 8 (some i1), xr 2 (v2)] h none h1 :=
  xC_of (by decide) (Nat.le_of_ble_eq_true rfl) (f_Walk_startAnew_e_ok hD hf (fun _ e => ⟨rfl, e⟩))
theorem d89_0 : decode (xcode 89) 0 = .ok (.iload_n 0, 1) := by decide +kernel
theorem d89_1 : decode (xcode 89) 1 = .ok (.invokestatic 79, 3) := by decide +kernel
theorem d89_4 : decode (xcode 89) 4 = .ok (.ireturn, 1) := by decide +kernel
noncomputable def f_Walk_leastOf_e (v0 : Int32) (h : xH) : Option Int32 :=
  (f_Integer_numberOfTrailingZeros v0 h).bind fun r1 =>
  some (r1)
set_option maxHeartbeats 4000000 in
set_option maxRecDepth 100000 in
theorem f_Walk_leastOf_e_ok {g : xG} {l : Launch} {d : Nat} {v0 : Int32} {h : xH} {o : Int32} {R : Option xV} (hD : 1 ≤ d) (hf : f_Walk_leastOf_e v0 h = some o) (K0 : ∀ (a : Int32), o = a → R = some (xi a)) : xEv g l d 89 0 [(0, xi v0)] [] h R h := by
  unfold f_Walk_leastOf_e at hf
  refine xs_iload_n d89_0 rfl ?_
  obtain ⟨r1, hc2, hf⟩ := lk_b hf
  refine xe_calls1 (as := [xi v0]) (st := []) (h2 := h) (d2 := d - 1) d89_1 ky89 ml76 st254 rfl na254 (Nat.le_of_ble_eq_true rfl) (by omega) (f_Integer_numberOfTrailingZeros_ok (by omega) hc2) ?_
  obtain eR := K0 _ (Option.some.inj hf).symm
  subst eR
  exact xs_iret d89_4 rt89
noncomputable def f_Walk_leastOf (v0 : Int32) (h : xH) : Option Int32 := f_Walk_leastOf_e v0 h
theorem f_Walk_leastOf_ok {g : xG} {l : Launch} {d : Nat} {v0 : Int32} {h : xH} {r : Int32} (hD : 1 ≤ d) (hf : f_Walk_leastOf v0 h = some r) : xC g l d 89 [xi v0] h (some (xi r)) h :=
  xC_of (by decide) (Nat.le_of_ble_eq_true rfl) (f_Walk_leastOf_e_ok hD hf (fun _ e => by rw [e]))
theorem d91_0 : decode (xcode 91) 0 = .ok (.aload_n 0, 1) := by decide +kernel
theorem d91_1 : decode (xcode 91) 1 = .ok (.getfield 20, 3) := by decide +kernel
theorem d91_4 : decode (xcode 91) 4 = .ok (.iconst 5, 1) := by decide +kernel
theorem d91_5 : decode (xcode 91) 5 = .ok (.aload_n 0, 1) := by decide +kernel
theorem d91_6 : decode (xcode 91) 6 = .ok (.getfield 12, 3) := by decide +kernel
theorem d91_9 : decode (xcode 91) 9 = .ok (.getfield 94, 3) := by decide +kernel
theorem d91_12 : decode (xcode 91) 12 = .ok (.invokestatic 97, 3) := by decide +kernel
theorem d91_15 : decode (xcode 91) 15 = .ok (.i2l, 1) := by decide +kernel
theorem d91_16 : decode (xcode 91) 16 = .ok (.lastore, 1) := by decide +kernel
theorem d91_17 : decode (xcode 91) 17 = .ok (.aload_n 0, 1) := by decide +kernel
theorem d91_18 : decode (xcode 91) 18 = .ok (.getfield 20, 3) := by decide +kernel
theorem d91_21 : decode (xcode 91) 21 = .ok (.bipush 6, 2) := by decide +kernel
theorem d91_23 : decode (xcode 91) 23 = .ok (.iload_n 1, 1) := by decide +kernel
theorem d91_24 : decode (xcode 91) 24 = .ok (.invokestatic 97, 3) := by decide +kernel
theorem d91_27 : decode (xcode 91) 27 = .ok (.i2l, 1) := by decide +kernel
theorem d91_28 : decode (xcode 91) 28 = .ok (.lastore, 1) := by decide +kernel
theorem d91_29 : decode (xcode 91) 29 = .ok (.aload_n 0, 1) := by decide +kernel
theorem d91_30 : decode (xcode 91) 30 = .ok (.getfield 20, 3) := by decide +kernel
theorem d91_33 : decode (xcode 91) 33 = .ok (.bipush 7, 2) := by decide +kernel
theorem d91_35 : decode (xcode 91) 35 = .ok (.aload_n 0, 1) := by decide +kernel
theorem d91_36 : decode (xcode 91) 36 = .ok (.getfield 27, 3) := by decide +kernel
theorem d91_39 : decode (xcode 91) 39 = .ok (.getfield 55, 3) := by decide +kernel
theorem d91_42 : decode (xcode 91) 42 = .ok (.aload_n 0, 1) := by decide +kernel
theorem d91_43 : decode (xcode 91) 43 = .ok (.getfield 12, 3) := by decide +kernel
theorem d91_46 : decode (xcode 91) 46 = .ok (.getfield 100, 3) := by decide +kernel
theorem d91_49 : decode (xcode 91) 49 = .ok (.isub, 1) := by decide +kernel
theorem d91_50 : decode (xcode 91) 50 = .ok (.i2l, 1) := by decide +kernel
theorem d91_51 : decode (xcode 91) 51 = .ok (.lastore, 1) := by decide +kernel
theorem d91_52 : decode (xcode 91) 52 = .ok (.aload_n 0, 1) := by decide +kernel
theorem d91_53 : decode (xcode 91) 53 = .ok (.getfield 20, 3) := by decide +kernel
theorem d91_56 : decode (xcode 91) 56 = .ok (.bipush 8, 2) := by decide +kernel
theorem d91_58 : decode (xcode 91) 58 = .ok (.aload_n 0, 1) := by decide +kernel
theorem d91_59 : decode (xcode 91) 59 = .ok (.getfield 12, 3) := by decide +kernel
theorem d91_62 : decode (xcode 91) 62 = .ok (.aload_n 0, 1) := by decide +kernel
theorem d91_63 : decode (xcode 91) 63 = .ok (.getfield 27, 3) := by decide +kernel
theorem d91_66 : decode (xcode 91) 66 = .ok (.getfield 103, 3) := by decide +kernel
theorem d91_69 : decode (xcode 91) 69 = .ok (.invokevirtual 106, 3) := by decide +kernel
theorem d91_72 : decode (xcode 91) 72 = .ok (.i2l, 1) := by decide +kernel
theorem d91_73 : decode (xcode 91) 73 = .ok (.lastore, 1) := by decide +kernel
theorem d91_74 : decode (xcode 91) 74 = .ok (.aload_n 0, 1) := by decide +kernel
theorem d91_75 : decode (xcode 91) 75 = .ok (.getfield 20, 3) := by decide +kernel
theorem d91_78 : decode (xcode 91) 78 = .ok (.bipush 9, 2) := by decide +kernel
theorem d91_80 : decode (xcode 91) 80 = .ok (.aload_n 0, 1) := by decide +kernel
theorem d91_81 : decode (xcode 91) 81 = .ok (.getfield 27, 3) := by decide +kernel
theorem d91_84 : decode (xcode 91) 84 = .ok (.aload_n 0, 1) := by decide +kernel
theorem d91_85 : decode (xcode 91) 85 = .ok (.getfield 12, 3) := by decide +kernel
theorem d91_88 : decode (xcode 91) 88 = .ok (.getfield 109, 3) := by decide +kernel
theorem d91_91 : decode (xcode 91) 91 = .ok (.invokevirtual 112, 3) := by decide +kernel
theorem d91_94 : decode (xcode 91) 94 = .ok (.i2l, 1) := by decide +kernel
theorem d91_95 : decode (xcode 91) 95 = .ok (.lastore, 1) := by decide +kernel
theorem d91_96 : decode (xcode 91) 96 = .ok (.aload_n 0, 1) := by decide +kernel
theorem d91_97 : decode (xcode 91) 97 = .ok (.getfield 20, 3) := by decide +kernel
theorem d91_100 : decode (xcode 91) 100 = .ok (.bipush 10, 2) := by decide +kernel
theorem d91_102 : decode (xcode 91) 102 = .ok (.aload_n 0, 1) := by decide +kernel
theorem d91_103 : decode (xcode 91) 103 = .ok (.getfield 12, 3) := by decide +kernel
theorem d91_106 : decode (xcode 91) 106 = .ok (.getfield 100, 3) := by decide +kernel
theorem d91_109 : decode (xcode 91) 109 = .ok (.i2l, 1) := by decide +kernel
theorem d91_110 : decode (xcode 91) 110 = .ok (.lastore, 1) := by decide +kernel
theorem d91_111 : decode (xcode 91) 111 = .ok (.aload_n 0, 1) := by decide +kernel
theorem d91_112 : decode (xcode 91) 112 = .ok (.getfield 20, 3) := by decide +kernel
theorem d91_115 : decode (xcode 91) 115 = .ok (.bipush 11, 2) := by decide +kernel
theorem d91_117 : decode (xcode 91) 117 = .ok (.aload_n 0, 1) := by decide +kernel
theorem d91_118 : decode (xcode 91) 118 = .ok (.getfield 12, 3) := by decide +kernel
theorem d91_121 : decode (xcode 91) 121 = .ok (.getfield 63, 3) := by decide +kernel
theorem d91_124 : decode (xcode 91) 124 = .ok (.i2l, 1) := by decide +kernel
theorem d91_125 : decode (xcode 91) 125 = .ok (.lastore, 1) := by decide +kernel
theorem d91_126 : decode (xcode 91) 126 = .ok (.return_, 1) := by decide +kernel
noncomputable def f_Walk_tellAll_e (v1 : Int32) (h : xH) : Option xH :=
  (f_Integer_bitCount (h.1 6 2 25) h).bind fun r1 =>
  xlet (xsB h 42 0 (vp_updL (h.2.2.2.2 42 0) ((5 : Int32)).toNatClampNeg ((r1).toInt64))) fun h3 =>
  (f_Integer_bitCount v1 h3).bind fun r4 =>
  xlet (xsB h3 42 0 (vp_updL (h3.2.2.2.2 42 0) ((6 : Int32)).toNatClampNeg ((r4).toInt64))) fun h6 =>
  (h6.2.2.1 10 3 0).bind fun i97 =>
  xlet (xsB h6 42 0 (vp_updL (h6.2.2.2.2 42 0) ((7 : Int32)).toNatClampNeg (((h6.1 8 1 i97) - (h6.1 6 0 25)).toInt64))) fun h8 =>
  (h8.2.2.1 10 3 0).bind fun i99 =>
  (f_State_load 25 (h8.1 8 2 i99) h8).bind fun r10 =>
  xlet (xsB h8 42 0 (vp_updL (h8.2.2.2.2 42 0) ((8 : Int32)).toNatClampNeg ((r10).toInt64))) fun h12 =>
  (h12.2.2.1 10 3 0).bind fun i913 =>
  (f_Told_deepOf i913 (h12.1 6 3 25) h12).bind fun r14 =>
  xlet (xsB h12 42 0 (vp_updL (h12.2.2.2.2 42 0) ((9 : Int32)).toNatClampNeg ((r14).toInt64))) fun h16 =>
  xlet (xsB h16 42 0 (vp_updL (h16.2.2.2.2 42 0) ((10 : Int32)).toNatClampNeg ((h16.1 6 0 25).toInt64))) fun h17 =>
  xlet (xsB h17 42 0 (vp_updL (h17.2.2.2.2 42 0) ((11 : Int32)).toNatClampNeg ((h17.1 6 1 25).toInt64))) fun h18 =>
  some (h18)
set_option maxHeartbeats 4000000 in
set_option maxRecDepth 100000 in
theorem f_Walk_tellAll_e_ok {g : xG} {l : Launch} {d : Nat} {v1 : Int32} {h : xH} {o : xH} {R : Option xV} {H' : xH} (hD : 1 ≤ d) (hf : f_Walk_tellAll_e v1 h = some o) (K0 : ∀ (h1 : xH), o = h1 → R = none ∧ H' = h1) : xEv g l d 91 0 [(0, xr 10 (some 0)), (1, xi v1)] [] h R H' := by
  unfold f_Walk_tellAll_e at hf
  refine xs_aload_n d91_0 rfl ?_
  refine xe_getc (j := 0) d91_1 ky91 fl115 fk10_2 rfl ?_
  refine xs_iconst (v := 5) d91_4 (by decide) ?_
  refine xs_aload_n d91_5 rfl ?_
  refine xe_getc (j := 25) d91_6 ky91 fl111 fk10_0 rfl ?_
  refine xe_geti d91_9 ky91 fl77 fk6_2 ?_
  obtain ⟨r1, hc2, hf⟩ := lk_b hf
  refine xe_calls1 (as := [xi (h.1 6 2 25)]) (st := [xi (5 : Int32), xr 42 (some 0)]) (h2 := h) (d2 := d - 1) d91_12 ky91 ml79 st255 rfl na255 (Nat.le_of_ble_eq_true rfl) (by omega) (f_Integer_bitCount_ok (by omega) hc2) ?_
  refine xs_i2l d91_15 ?_
  obtain ⟨h3, eh3, hf⟩ := lk_let hf
  refine xe_last d91_16 (by decide) ak42 (show xib (5 : Int32) 12 by decide)  eh3 ?_
  refine xs_aload_n d91_17 rfl ?_
  refine xe_getc (j := 0) d91_18 ky91 fl115 fk10_2 rfl ?_
  refine xs_bipush (v := 6) d91_21 (by decide) ?_
  refine xs_iload_n d91_23 rfl ?_
  obtain ⟨r4, hc5, hf⟩ := lk_b hf
  refine xe_calls1 (as := [xi v1]) (st := [xi (6 : Int32), xr 42 (some 0)]) (h2 := h3) (d2 := d - 1) d91_24 ky91 ml79 st255 rfl na255 (Nat.le_of_ble_eq_true rfl) (by omega) (f_Integer_bitCount_ok (by omega) hc5) ?_
  refine xs_i2l d91_27 ?_
  obtain ⟨h6, eh6, hf⟩ := lk_let hf
  refine xe_last d91_28 (by decide) ak42 (show xib (6 : Int32) 12 by decide)  eh6 ?_
  refine xs_aload_n d91_29 rfl ?_
  refine xe_getc (j := 0) d91_30 ky91 fl115 fk10_2 rfl ?_
  refine xs_bipush (v := 7) d91_33 (by decide) ?_
  refine xs_aload_n d91_35 rfl ?_
  refine xe_getd d91_36 ky91 fl116 fk10_3 ?_
  obtain ⟨i97, ei97, hf⟩ := lk_b hf
  rw [ei97]
  refine xe_geti d91_39 ky91 fl22 fk8_1 ?_
  refine xs_aload_n d91_42 rfl ?_
  refine xe_getc (j := 25) d91_43 ky91 fl111 fk10_0 rfl ?_
  refine xe_geti d91_46 ky91 fl69 fk6_0 ?_
  refine xs_isub d91_49 ?_
  refine xs_i2l d91_50 ?_
  obtain ⟨h8, eh8, hf⟩ := lk_let hf
  refine xe_last d91_51 (by decide) ak42 (show xib (7 : Int32) 12 by decide)  eh8 ?_
  refine xs_aload_n d91_52 rfl ?_
  refine xe_getc (j := 0) d91_53 ky91 fl115 fk10_2 rfl ?_
  refine xs_bipush (v := 8) d91_56 (by decide) ?_
  refine xs_aload_n d91_58 rfl ?_
  refine xe_getc (j := 25) d91_59 ky91 fl111 fk10_0 rfl ?_
  refine xs_aload_n d91_62 rfl ?_
  refine xe_getd d91_63 ky91 fl116 fk10_3 ?_
  obtain ⟨i99, ei99, hf⟩ := lk_b hf
  rw [ei99]
  refine xe_geti d91_66 ky91 fl27 fk8_2 ?_
  obtain ⟨r10, hc11, hf⟩ := lk_b hf
  refine xe_callv1 (as := [xi (h8.1 8 2 i99)]) (st := [xi (8 : Int32), xr 42 (some 0)]) (h2 := h8) (d2 := d - 1) d91_69 ky91 ml80 st52 (by decide) cn52 rfl na52 (Nat.le_of_ble_eq_true rfl) (by omega) (f_State_load_ok (by omega) hc11) ?_
  refine xs_i2l d91_72 ?_
  obtain ⟨h12, eh12, hf⟩ := lk_let hf
  refine xe_last d91_73 (by decide) ak42 (show xib (8 : Int32) 12 by decide)  eh12 ?_
  refine xs_aload_n d91_74 rfl ?_
  refine xe_getc (j := 0) d91_75 ky91 fl115 fk10_2 rfl ?_
  refine xs_bipush (v := 9) d91_78 (by decide) ?_
  refine xs_aload_n d91_80 rfl ?_
  refine xe_getd d91_81 ky91 fl116 fk10_3 ?_
  refine xs_aload_n d91_84 rfl ?_
  refine xe_getc (j := 25) d91_85 ky91 fl111 fk10_0 rfl ?_
  refine xe_geti d91_88 ky91 fl80 fk6_3 ?_
  obtain ⟨i913, ei913, hf⟩ := lk_b hf
  rw [ei913]
  obtain ⟨r14, hc15, hf⟩ := lk_b hf
  refine xe_callv1 (as := [xi (h12.1 6 3 25)]) (st := [xi (9 : Int32), xr 42 (some 0)]) (h2 := h12) (d2 := d - 1) d91_91 ky91 ml81 st77 (by decide) cn77 rfl na77 (Nat.le_of_ble_eq_true rfl) (by omega) (f_Told_deepOf_ok (by omega) hc15) ?_
  refine xs_i2l d91_94 ?_
  obtain ⟨h16, eh16, hf⟩ := lk_let hf
  refine xe_last d91_95 (by decide) ak42 (show xib (9 : Int32) 12 by decide)  eh16 ?_
  refine xs_aload_n d91_96 rfl ?_
  refine xe_getc (j := 0) d91_97 ky91 fl115 fk10_2 rfl ?_
  refine xs_bipush (v := 10) d91_100 (by decide) ?_
  refine xs_aload_n d91_102 rfl ?_
  refine xe_getc (j := 25) d91_103 ky91 fl111 fk10_0 rfl ?_
  refine xe_geti d91_106 ky91 fl69 fk6_0 ?_
  refine xs_i2l d91_109 ?_
  obtain ⟨h17, eh17, hf⟩ := lk_let hf
  refine xe_last d91_110 (by decide) ak42 (show xib (10 : Int32) 12 by decide)  eh17 ?_
  refine xs_aload_n d91_111 rfl ?_
  refine xe_getc (j := 0) d91_112 ky91 fl115 fk10_2 rfl ?_
  refine xs_bipush (v := 11) d91_115 (by decide) ?_
  refine xs_aload_n d91_117 rfl ?_
  refine xe_getc (j := 25) d91_118 ky91 fl111 fk10_0 rfl ?_
  refine xe_geti d91_121 ky91 fl72 fk6_1 ?_
  refine xs_i2l d91_124 ?_
  obtain ⟨h18, eh18, hf⟩ := lk_let hf
  refine xe_last d91_125 (by decide) ak42 (show xib (11 : Int32) 12 by decide)  eh18 ?_
  obtain ⟨eR, eH⟩ := K0 _ (Option.some.inj hf).symm
  subst eR; subst eH
  exact xs_vret d91_126 rt91
noncomputable def f_Walk_tellAll (v1 : Int32) (h : xH) : Option xH := f_Walk_tellAll_e v1 h
theorem f_Walk_tellAll_ok {g : xG} {l : Launch} {d : Nat} {v1 : Int32} {h : xH} {h1 : xH} (hD : 1 ≤ d) (hf : f_Walk_tellAll v1 h = some h1) : xC g l d 91 [xr 10 (some 0), xi v1] h none h1 :=
  xC_of (by decide) (Nat.le_of_ble_eq_true rfl) (f_Walk_tellAll_e_ok hD hf (fun _ e => ⟨rfl, e⟩))
theorem d92_0 : decode (xcode 92) 0 = .ok (.aload_n 0, 1) := by decide +kernel
theorem d92_1 : decode (xcode 92) 1 = .ok (.getfield 20, 3) := by decide +kernel
theorem d92_4 : decode (xcode 92) 4 = .ok (.iconst 0, 1) := by decide +kernel
theorem d92_5 : decode (xcode 92) 5 = .ok (.iload_n 1, 1) := by decide +kernel
theorem d92_6 : decode (xcode 92) 6 = .ok (.i2l, 1) := by decide +kernel
theorem d92_7 : decode (xcode 92) 7 = .ok (.lastore, 1) := by decide +kernel
theorem d92_8 : decode (xcode 92) 8 = .ok (.aload_n 0, 1) := by decide +kernel
theorem d92_9 : decode (xcode 92) 9 = .ok (.getfield 20, 3) := by decide +kernel
theorem d92_12 : decode (xcode 92) 12 = .ok (.iconst 1, 1) := by decide +kernel
theorem d92_13 : decode (xcode 92) 13 = .ok (.aload_n 0, 1) := by decide +kernel
theorem d92_14 : decode (xcode 92) 14 = .ok (.getfield 12, 3) := by decide +kernel
theorem d92_17 : decode (xcode 92) 17 = .ok (.getfield 115, 3) := by decide +kernel
theorem d92_20 : decode (xcode 92) 20 = .ok (.iload_n 1, 1) := by decide +kernel
theorem d92_21 : decode (xcode 92) 21 = .ok (.iaload, 1) := by decide +kernel
theorem d92_22 : decode (xcode 92) 22 = .ok (.i2l, 1) := by decide +kernel
theorem d92_23 : decode (xcode 92) 23 = .ok (.lastore, 1) := by decide +kernel
theorem d92_24 : decode (xcode 92) 24 = .ok (.aload_n 0, 1) := by decide +kernel
theorem d92_25 : decode (xcode 92) 25 = .ok (.getfield 20, 3) := by decide +kernel
theorem d92_28 : decode (xcode 92) 28 = .ok (.iconst 2, 1) := by decide +kernel
theorem d92_29 : decode (xcode 92) 29 = .ok (.aload_n 0, 1) := by decide +kernel
theorem d92_30 : decode (xcode 92) 30 = .ok (.getfield 12, 3) := by decide +kernel
theorem d92_33 : decode (xcode 92) 33 = .ok (.getfield 119, 3) := by decide +kernel
theorem d92_36 : decode (xcode 92) 36 = .ok (.iload_n 1, 1) := by decide +kernel
theorem d92_37 : decode (xcode 92) 37 = .ok (.iaload, 1) := by decide +kernel
theorem d92_38 : decode (xcode 92) 38 = .ok (.i2l, 1) := by decide +kernel
theorem d92_39 : decode (xcode 92) 39 = .ok (.lastore, 1) := by decide +kernel
theorem d92_40 : decode (xcode 92) 40 = .ok (.aload_n 0, 1) := by decide +kernel
theorem d92_41 : decode (xcode 92) 41 = .ok (.getfield 20, 3) := by decide +kernel
theorem d92_44 : decode (xcode 92) 44 = .ok (.iconst 3, 1) := by decide +kernel
theorem d92_45 : decode (xcode 92) 45 = .ok (.aload_n 0, 1) := by decide +kernel
theorem d92_46 : decode (xcode 92) 46 = .ok (.getfield 27, 3) := by decide +kernel
theorem d92_49 : decode (xcode 92) 49 = .ok (.getfield 122, 3) := by decide +kernel
theorem d92_52 : decode (xcode 92) 52 = .ok (.iload_n 1, 1) := by decide +kernel
theorem d92_53 : decode (xcode 92) 53 = .ok (.iaload, 1) := by decide +kernel
theorem d92_54 : decode (xcode 92) 54 = .ok (.i2l, 1) := by decide +kernel
theorem d92_55 : decode (xcode 92) 55 = .ok (.lastore, 1) := by decide +kernel
theorem d92_56 : decode (xcode 92) 56 = .ok (.aload_n 0, 1) := by decide +kernel
theorem d92_57 : decode (xcode 92) 57 = .ok (.getfield 20, 3) := by decide +kernel
theorem d92_60 : decode (xcode 92) 60 = .ok (.iconst 4, 1) := by decide +kernel
theorem d92_61 : decode (xcode 92) 61 = .ok (.aload_n 0, 1) := by decide +kernel
theorem d92_62 : decode (xcode 92) 62 = .ok (.getfield 12, 3) := by decide +kernel
theorem d92_65 : decode (xcode 92) 65 = .ok (.iload_n 1, 1) := by decide +kernel
theorem d92_66 : decode (xcode 92) 66 = .ok (.invokevirtual 125, 3) := by decide +kernel
theorem d92_69 : decode (xcode 92) 69 = .ok (.i2l, 1) := by decide +kernel
theorem d92_70 : decode (xcode 92) 70 = .ok (.lastore, 1) := by decide +kernel
theorem d92_71 : decode (xcode 92) 71 = .ok (.return_, 1) := by decide +kernel
noncomputable def f_Walk_tellOf_e (v1 : Int32) (h : xH) : Option xH :=
  xlet (xsB h 42 0 (vp_updL (h.2.2.2.2 42 0) ((0 : Int32)).toNatClampNeg ((v1).toInt64))) fun h1 =>
  if xib v1 8 then (
  xlet (xsB h1 42 0 (vp_updL (h1.2.2.2.2 42 0) ((1 : Int32)).toNatClampNeg ((h1.2.2.2.1 31 25 (v1).toNatClampNeg).toInt64))) fun h3 =>
  if xib v1 8 then (
  xlet (xsB h3 42 0 (vp_updL (h3.2.2.2.2 42 0) ((2 : Int32)).toNatClampNeg ((h3.2.2.2.1 32 25 (v1).toNatClampNeg).toInt64))) fun h5 =>
  (h5.2.2.1 10 3 0).bind fun i96 =>
  if xib v1 8 then (
  xlet (xsB h5 42 0 (vp_updL (h5.2.2.2.2 42 0) ((3 : Int32)).toNatClampNeg ((h5.2.2.2.1 39 i96 (v1).toNatClampNeg).toInt64))) fun h8 =>
  (f_State_overOf 25 v1 h8).bind fun r9 =>
  xlet (xsB h8 42 0 (vp_updL (h8.2.2.2.2 42 0) ((4 : Int32)).toNatClampNeg ((r9).toInt64))) fun h11 =>
  some (h11)) else none) else none) else none
set_option maxHeartbeats 4000000 in
set_option maxRecDepth 100000 in
theorem f_Walk_tellOf_e_ok {g : xG} {l : Launch} {d : Nat} {v1 : Int32} {h : xH} {o : xH} {R : Option xV} {H' : xH} (hD : 1 ≤ d) (hf : f_Walk_tellOf_e v1 h = some o) (K0 : ∀ (h1 : xH), o = h1 → R = none ∧ H' = h1) : xEv g l d 92 0 [(0, xr 10 (some 0)), (1, xi v1)] [] h R H' := by
  unfold f_Walk_tellOf_e at hf
  refine xs_aload_n d92_0 rfl ?_
  refine xe_getc (j := 0) d92_1 ky92 fl115 fk10_2 rfl ?_
  refine xs_iconst (v := 0) d92_4 (by decide) ?_
  refine xs_iload_n d92_5 rfl ?_
  refine xs_i2l d92_6 ?_
  obtain ⟨h1, eh1, hf⟩ := lk_let hf
  refine xe_last d92_7 (by decide) ak42 (show xib (0 : Int32) 12 by decide)  eh1 ?_
  refine xs_aload_n d92_8 rfl ?_
  refine xe_getc (j := 0) d92_9 ky92 fl115 fk10_2 rfl ?_
  refine xs_iconst (v := 1) d92_12 (by decide) ?_
  refine xs_aload_n d92_13 rfl ?_
  refine xe_getc (j := 25) d92_14 ky92 fl111 fk10_0 rfl ?_
  refine xe_getc (j := 25) d92_17 ky92 fl90 fk6_6 rfl ?_
  refine xs_iload_n d92_20 rfl ?_
  obtain ⟨hin2, hf⟩ := lk_g hf
  refine xe_iald d92_21 (by decide) ak31 hin2 ?_
  refine xs_i2l d92_22 ?_
  obtain ⟨h3, eh3, hf⟩ := lk_let hf
  refine xe_last d92_23 (by decide) ak42 (show xib (1 : Int32) 12 by decide)  eh3 ?_
  refine xs_aload_n d92_24 rfl ?_
  refine xe_getc (j := 0) d92_25 ky92 fl115 fk10_2 rfl ?_
  refine xs_iconst (v := 2) d92_28 (by decide) ?_
  refine xs_aload_n d92_29 rfl ?_
  refine xe_getc (j := 25) d92_30 ky92 fl111 fk10_0 rfl ?_
  refine xe_getc (j := 25) d92_33 ky92 fl94 fk6_7 rfl ?_
  refine xs_iload_n d92_36 rfl ?_
  obtain ⟨hin4, hf⟩ := lk_g hf
  refine xe_iald d92_37 (by decide) ak32 hin4 ?_
  refine xs_i2l d92_38 ?_
  obtain ⟨h5, eh5, hf⟩ := lk_let hf
  refine xe_last d92_39 (by decide) ak42 (show xib (2 : Int32) 12 by decide)  eh5 ?_
  refine xs_aload_n d92_40 rfl ?_
  refine xe_getc (j := 0) d92_41 ky92 fl115 fk10_2 rfl ?_
  refine xs_iconst (v := 3) d92_44 (by decide) ?_
  refine xs_aload_n d92_45 rfl ?_
  refine xe_getd d92_46 ky92 fl116 fk10_3 ?_
  obtain ⟨i96, ei96, hf⟩ := lk_b hf
  rw [ei96]
  refine xe_getc (j := i96) d92_49 ky92 fl47 fk8_7 (by omega) ?_
  refine xs_iload_n d92_52 rfl ?_
  obtain ⟨hin7, hf⟩ := lk_g hf
  refine xe_iald d92_53 (by decide) ak39 hin7 ?_
  refine xs_i2l d92_54 ?_
  obtain ⟨h8, eh8, hf⟩ := lk_let hf
  refine xe_last d92_55 (by decide) ak42 (show xib (3 : Int32) 12 by decide)  eh8 ?_
  refine xs_aload_n d92_56 rfl ?_
  refine xe_getc (j := 0) d92_57 ky92 fl115 fk10_2 rfl ?_
  refine xs_iconst (v := 4) d92_60 (by decide) ?_
  refine xs_aload_n d92_61 rfl ?_
  refine xe_getc (j := 25) d92_62 ky92 fl111 fk10_0 rfl ?_
  refine xs_iload_n d92_65 rfl ?_
  obtain ⟨r9, hc10, hf⟩ := lk_b hf
  refine xe_callv1 (as := [xi v1]) (st := [xi (4 : Int32), xr 42 (some 0)]) (h2 := h8) (d2 := d - 1) d92_66 ky92 ml83 st53 (by decide) cn53 rfl na53 (Nat.le_of_ble_eq_true rfl) (by omega) (f_State_overOf_ok (by omega) hc10) ?_
  refine xs_i2l d92_69 ?_
  obtain ⟨h11, eh11, hf⟩ := lk_let hf
  refine xe_last d92_70 (by decide) ak42 (show xib (4 : Int32) 12 by decide)  eh11 ?_
  obtain ⟨eR, eH⟩ := K0 _ (Option.some.inj hf).symm
  subst eR; subst eH
  exact xs_vret d92_71 rt92
noncomputable def f_Walk_tellOf (v1 : Int32) (h : xH) : Option xH := f_Walk_tellOf_e v1 h
theorem f_Walk_tellOf_ok {g : xG} {l : Launch} {d : Nat} {v1 : Int32} {h : xH} {h1 : xH} (hD : 1 ≤ d) (hf : f_Walk_tellOf v1 h = some h1) : xC g l d 92 [xr 10 (some 0), xi v1] h none h1 :=
  xC_of (by decide) (Nat.le_of_ble_eq_true rfl) (f_Walk_tellOf_e_ok hD hf (fun _ e => ⟨rfl, e⟩))
theorem d11_0 : decode (xcode 11) 0 = .ok (.iload_n 1, 1) := by decide +kernel
theorem d11_1 : decode (xcode 11) 1 = .ok (.ifCond .lt 15, 3) := by decide +kernel
theorem d11_4 : decode (xcode 11) 4 = .ok (.iload_n 1, 1) := by decide +kernel
theorem d11_5 : decode (xcode 11) 5 = .ok (.aload_n 0, 1) := by decide +kernel
theorem d11_6 : decode (xcode 11) 6 = .ok (.arraylength, 1) := by decide +kernel
theorem d11_7 : decode (xcode 11) 7 = .ok (.if_icmp .ge 9, 3) := by decide +kernel
theorem d11_10 : decode (xcode 11) 10 = .ok (.aload_n 0, 1) := by decide +kernel
theorem d11_11 : decode (xcode 11) 11 = .ok (.iload_n 1, 1) := by decide +kernel
theorem d11_12 : decode (xcode 11) 12 = .ok (.laload, 1) := by decide +kernel
theorem d11_13 : decode (xcode 11) 13 = .ok (.goto 4, 3) := by decide +kernel
theorem d11_16 : decode (xcode 11) 16 = .ok (.lconst 0, 1) := by decide +kernel
theorem d11_17 : decode (xcode 11) 17 = .ok (.lreturn, 1) := by decide +kernel
noncomputable def f_Rule_wordAmong_42_e (v1 : Int32) (h : xH) : Option Int64 :=
  if v1 < (0 : Int32) then (
  some ((0 : Int64))) else (
  if (12 : Int32) ≤ v1 then (
  some ((0 : Int64))) else (
  if xib v1 12 then (
  some (h.2.2.2.2 42 0 (v1).toNatClampNeg)) else none))
set_option maxHeartbeats 4000000 in
set_option maxRecDepth 100000 in
theorem f_Rule_wordAmong_42_e_ok {g : xG} {l : Launch} {d : Nat} {v1 : Int32} {h : xH} {o : Int64} {R : Option xV} (hD : 0 ≤ d) (hf : f_Rule_wordAmong_42_e v1 h = some o) (K0 : ∀ (a : Int64), o = a → R = some (xl a)) : xEv g l d 11 0 [(0, xr 42 (some 0)), (1, xi v1)] [] h R h := by
  unfold f_Rule_wordAmong_42_e at hf
  refine xs_iload_n d11_0 rfl ?_
  rcases lk_if hf with ⟨hc1, hf⟩ | ⟨hc1, hf⟩
  · refine xs_if_lt (tgt := 16) d11_1 (by decide) (fun _ => ?_) (fun hn => absurd hc1 hn)
    refine xs_lconst (v := 0) d11_16 (by decide) ?_
    obtain eR := K0 _ (Option.some.inj hf).symm
    subst eR
    exact xs_lret d11_17 rt11
  · refine xs_if_lt (tgt := 16) d11_1 (by decide) (fun hp => absurd hp hc1) (fun _ => ?_)
    refine xs_iload_n d11_4 rfl ?_
    refine xs_aload_n d11_5 rfl ?_
    refine xe_alen (v := 12) d11_6 (by decide) ak42 (by decide) (by decide) ?_
    rcases lk_if hf with ⟨hc2, hf⟩ | ⟨hc2, hf⟩
    · refine xs_icmp_ge (tgt := 16) d11_7 (by decide) (fun _ => ?_) (fun hn => absurd hc2 hn)
      refine xs_lconst (v := 0) d11_16 (by decide) ?_
      obtain eR := K0 _ (Option.some.inj hf).symm
      subst eR
      exact xs_lret d11_17 rt11
    · refine xs_icmp_ge (tgt := 16) d11_7 (by decide) (fun hp => absurd hp hc2) (fun _ => ?_)
      refine xs_aload_n d11_10 rfl ?_
      refine xs_iload_n d11_11 rfl ?_
      obtain ⟨hin3, hf⟩ := lk_g hf
      refine xe_lald d11_12 (by decide) ak42 hin3 ?_
      refine xs_goto (tgt := 17) d11_13 (by decide) ?_
      obtain eR := K0 _ (Option.some.inj hf).symm
      subst eR
      exact xs_lret d11_17 rt11
noncomputable def f_Rule_wordAmong_42 (v1 : Int32) (h : xH) : Option Int64 := f_Rule_wordAmong_42_e v1 h
theorem f_Rule_wordAmong_42_ok {g : xG} {l : Launch} {d : Nat} {v1 : Int32} {h : xH} {r : Int64} (hD : 0 ≤ d) (hf : f_Rule_wordAmong_42 v1 h = some r) : xC g l d 11 [xr 42 (some 0), xi v1] h (some (xl r)) h :=
  xC_of (by decide) (Nat.le_of_ble_eq_true rfl) (f_Rule_wordAmong_42_e_ok hD hf (fun _ e => by rw [e]))
theorem d10_0 : decode (xcode 10) 0 = .ok (.iconst 0, 1) := by decide +kernel
theorem d10_1 : decode (xcode 10) 1 = .ok (.istore_n 2, 1) := by decide +kernel
theorem d10_2 : decode (xcode 10) 2 = .ok (.iconst 0, 1) := by decide +kernel
theorem d10_3 : decode (xcode 10) 3 = .ok (.istore_n 3, 1) := by decide +kernel
theorem d10_4 : decode (xcode 10) 4 = .ok (.iload_n 3, 1) := by decide +kernel
theorem d10_5 : decode (xcode 10) 5 = .ok (.aload_n 0, 1) := by decide +kernel
theorem d10_6 : decode (xcode 10) 6 = .ok (.getfield 19, 3) := by decide +kernel
theorem d10_9 : decode (xcode 10) 9 = .ok (.if_icmp .ge 212, 3) := by decide +kernel
theorem d10_12 : decode (xcode 10) 12 = .ok (.iload_n 3, 1) := by decide +kernel
theorem d10_13 : decode (xcode 10) 13 = .ok (.aload_n 0, 1) := by decide +kernel
theorem d10_14 : decode (xcode 10) 14 = .ok (.getfield 9, 3) := by decide +kernel
theorem d10_17 : decode (xcode 10) 17 = .ok (.arraylength, 1) := by decide +kernel
theorem d10_18 : decode (xcode 10) 18 = .ok (.if_icmp .ge 203, 3) := by decide +kernel
theorem d10_21 : decode (xcode 10) 21 = .ok (.aload_n 0, 1) := by decide +kernel
theorem d10_22 : decode (xcode 10) 22 = .ok (.getfield 9, 3) := by decide +kernel
theorem d10_25 : decode (xcode 10) 25 = .ok (.iload_n 3, 1) := by decide +kernel
theorem d10_26 : decode (xcode 10) 26 = .ok (.iaload, 1) := by decide +kernel
theorem d10_27 : decode (xcode 10) 27 = .ok (.istore 4, 2) := by decide +kernel
theorem d10_29 : decode (xcode 10) 29 = .ok (.iload 4, 2) := by decide +kernel
theorem d10_31 : decode (xcode 10) 31 = .ok (.bipush 100, 2) := by decide +kernel
theorem d10_33 : decode (xcode 10) 33 = .ok (.if_icmp .ge 10, 3) := by decide +kernel
theorem d10_36 : decode (xcode 10) 36 = .ok (.iload 4, 2) := by decide +kernel
theorem d10_38 : decode (xcode 10) 38 = .ok (.bipush 12, 2) := by decide +kernel
theorem d10_40 : decode (xcode 10) 40 = .ok (.if_icmp .ge 43, 3) := by decide +kernel
theorem d10_43 : decode (xcode 10) 43 = .ok (.iload_n 2, 1) := by decide +kernel
theorem d10_44 : decode (xcode 10) 44 = .ok (.bipush 64, 2) := by decide +kernel
theorem d10_46 : decode (xcode 10) 46 = .ok (.if_icmp .ge 169, 3) := by decide +kernel
theorem d10_49 : decode (xcode 10) 49 = .ok (.aload_n 0, 1) := by decide +kernel
theorem d10_50 : decode (xcode 10) 50 = .ok (.getfield 15, 3) := by decide +kernel
theorem d10_53 : decode (xcode 10) 53 = .ok (.iload_n 2, 1) := by decide +kernel
theorem d10_54 : decode (xcode 10) 54 = .ok (.iload 4, 2) := by decide +kernel
theorem d10_56 : decode (xcode 10) 56 = .ok (.bipush 100, 2) := by decide +kernel
theorem d10_58 : decode (xcode 10) 58 = .ok (.if_icmp .lt 12, 3) := by decide +kernel
theorem d10_61 : decode (xcode 10) 61 = .ok (.iload 4, 2) := by decide +kernel
theorem d10_63 : decode (xcode 10) 63 = .ok (.bipush 100, 2) := by decide +kernel
theorem d10_65 : decode (xcode 10) 65 = .ok (.isub, 1) := by decide +kernel
theorem d10_66 : decode (xcode 10) 66 = .ok (.i2l, 1) := by decide +kernel
theorem d10_67 : decode (xcode 10) 67 = .ok (.goto 9, 3) := by decide +kernel
theorem d10_70 : decode (xcode 10) 70 = .ok (.aload_n 1, 1) := by decide +kernel
theorem d10_71 : decode (xcode 10) 71 = .ok (.iload 4, 2) := by decide +kernel
theorem d10_73 : decode (xcode 10) 73 = .ok (.invokestatic 27, 3) := by decide +kernel
theorem d10_76 : decode (xcode 10) 76 = .ok (.lastore, 1) := by decide +kernel
theorem d10_77 : decode (xcode 10) 77 = .ok (.iinc 2 1, 3) := by decide +kernel
theorem d10_80 : decode (xcode 10) 80 = .ok (.goto 135, 3) := by decide +kernel
theorem d10_83 : decode (xcode 10) 83 = .ok (.iload 4, 2) := by decide +kernel
theorem d10_85 : decode (xcode 10) 85 = .ok (.bipush 26, 2) := by decide +kernel
theorem d10_87 : decode (xcode 10) 87 = .ok (.if_icmp .ne 21, 3) := by decide +kernel
theorem d10_90 : decode (xcode 10) 90 = .ok (.iload_n 2, 1) := by decide +kernel
theorem d10_91 : decode (xcode 10) 91 = .ok (.iconst 1, 1) := by decide +kernel
theorem d10_92 : decode (xcode 10) 92 = .ok (.if_icmp .lt 14, 3) := by decide +kernel
theorem d10_95 : decode (xcode 10) 95 = .ok (.aload_n 0, 1) := by decide +kernel
theorem d10_96 : decode (xcode 10) 96 = .ok (.getfield 15, 3) := by decide +kernel
theorem d10_99 : decode (xcode 10) 99 = .ok (.iload_n 2, 1) := by decide +kernel
theorem d10_100 : decode (xcode 10) 100 = .ok (.iconst 1, 1) := by decide +kernel
theorem d10_101 : decode (xcode 10) 101 = .ok (.isub, 1) := by decide +kernel
theorem d10_102 : decode (xcode 10) 102 = .ok (.laload, 1) := by decide +kernel
theorem d10_103 : decode (xcode 10) 103 = .ok (.goto 4, 3) := by decide +kernel
theorem d10_106 : decode (xcode 10) 106 = .ok (.lconst 0, 1) := by decide +kernel
theorem d10_107 : decode (xcode 10) 107 = .ok (.lreturn, 1) := by decide +kernel
theorem d10_108 : decode (xcode 10) 108 = .ok (.iload 4, 2) := by decide +kernel
theorem d10_110 : decode (xcode 10) 110 = .ok (.bipush 25, 2) := by decide +kernel
theorem d10_112 : decode (xcode 10) 112 = .ok (.if_icmp .ne 35, 3) := by decide +kernel
theorem d10_115 : decode (xcode 10) 115 = .ok (.iload_n 2, 1) := by decide +kernel
theorem d10_116 : decode (xcode 10) 116 = .ok (.iconst 2, 1) := by decide +kernel
theorem d10_117 : decode (xcode 10) 117 = .ok (.if_icmp .lt 25, 3) := by decide +kernel
theorem d10_120 : decode (xcode 10) 120 = .ok (.aload_n 0, 1) := by decide +kernel
theorem d10_121 : decode (xcode 10) 121 = .ok (.getfield 15, 3) := by decide +kernel
theorem d10_124 : decode (xcode 10) 124 = .ok (.iload_n 2, 1) := by decide +kernel
theorem d10_125 : decode (xcode 10) 125 = .ok (.iconst 1, 1) := by decide +kernel
theorem d10_126 : decode (xcode 10) 126 = .ok (.isub, 1) := by decide +kernel
theorem d10_127 : decode (xcode 10) 127 = .ok (.laload, 1) := by decide +kernel
theorem d10_128 : decode (xcode 10) 128 = .ok (.lconst 0, 1) := by decide +kernel
theorem d10_129 : decode (xcode 10) 129 = .ok (.lcmp, 1) := by decide +kernel
theorem d10_130 : decode (xcode 10) 130 = .ok (.ifCond .eq 12, 3) := by decide +kernel
theorem d10_133 : decode (xcode 10) 133 = .ok (.aload_n 0, 1) := by decide +kernel
theorem d10_134 : decode (xcode 10) 134 = .ok (.getfield 15, 3) := by decide +kernel
theorem d10_137 : decode (xcode 10) 137 = .ok (.iload_n 2, 1) := by decide +kernel
theorem d10_138 : decode (xcode 10) 138 = .ok (.iconst 2, 1) := by decide +kernel
theorem d10_139 : decode (xcode 10) 139 = .ok (.isub, 1) := by decide +kernel
theorem d10_140 : decode (xcode 10) 140 = .ok (.laload, 1) := by decide +kernel
theorem d10_141 : decode (xcode 10) 141 = .ok (.lreturn, 1) := by decide +kernel
theorem d10_142 : decode (xcode 10) 142 = .ok (.iconst 0, 1) := by decide +kernel
theorem d10_143 : decode (xcode 10) 143 = .ok (.istore_n 2, 1) := by decide +kernel
theorem d10_144 : decode (xcode 10) 144 = .ok (.goto 71, 3) := by decide +kernel
theorem d10_147 : decode (xcode 10) 147 = .ok (.iload 4, 2) := by decide +kernel
theorem d10_149 : decode (xcode 10) 149 = .ok (.bipush 24, 2) := by decide +kernel
theorem d10_151 : decode (xcode 10) 151 = .ok (.if_icmp .ne 29, 3) := by decide +kernel
theorem d10_154 : decode (xcode 10) 154 = .ok (.iload_n 2, 1) := by decide +kernel
theorem d10_155 : decode (xcode 10) 155 = .ok (.iconst 1, 1) := by decide +kernel
theorem d10_156 : decode (xcode 10) 156 = .ok (.if_icmp .lt 59, 3) := by decide +kernel
theorem d10_159 : decode (xcode 10) 159 = .ok (.aload_n 0, 1) := by decide +kernel
theorem d10_160 : decode (xcode 10) 160 = .ok (.getfield 15, 3) := by decide +kernel
theorem d10_163 : decode (xcode 10) 163 = .ok (.iload_n 2, 1) := by decide +kernel
theorem d10_164 : decode (xcode 10) 164 = .ok (.iconst 1, 1) := by decide +kernel
theorem d10_165 : decode (xcode 10) 165 = .ok (.isub, 1) := by decide +kernel
theorem d10_166 : decode (xcode 10) 166 = .ok (.lconst 1, 1) := by decide +kernel
theorem d10_167 : decode (xcode 10) 167 = .ok (.aload_n 0, 1) := by decide +kernel
theorem d10_168 : decode (xcode 10) 168 = .ok (.getfield 15, 3) := by decide +kernel
theorem d10_171 : decode (xcode 10) 171 = .ok (.iload_n 2, 1) := by decide +kernel
theorem d10_172 : decode (xcode 10) 172 = .ok (.iconst 1, 1) := by decide +kernel
theorem d10_173 : decode (xcode 10) 173 = .ok (.isub, 1) := by decide +kernel
theorem d10_174 : decode (xcode 10) 174 = .ok (.laload, 1) := by decide +kernel
theorem d10_175 : decode (xcode 10) 175 = .ok (.lsub, 1) := by decide +kernel
theorem d10_176 : decode (xcode 10) 176 = .ok (.lastore, 1) := by decide +kernel
theorem d10_177 : decode (xcode 10) 177 = .ok (.goto 38, 3) := by decide +kernel
theorem d10_180 : decode (xcode 10) 180 = .ok (.iload_n 2, 1) := by decide +kernel
theorem d10_181 : decode (xcode 10) 181 = .ok (.iconst 2, 1) := by decide +kernel
theorem d10_182 : decode (xcode 10) 182 = .ok (.if_icmp .lt 33, 3) := by decide +kernel
theorem d10_185 : decode (xcode 10) 185 = .ok (.iinc 2 (-1), 3) := by decide +kernel
theorem d10_188 : decode (xcode 10) 188 = .ok (.aload_n 0, 1) := by decide +kernel
theorem d10_189 : decode (xcode 10) 189 = .ok (.getfield 15, 3) := by decide +kernel
theorem d10_192 : decode (xcode 10) 192 = .ok (.iload_n 2, 1) := by decide +kernel
theorem d10_193 : decode (xcode 10) 193 = .ok (.iconst 1, 1) := by decide +kernel
theorem d10_194 : decode (xcode 10) 194 = .ok (.isub, 1) := by decide +kernel
theorem d10_195 : decode (xcode 10) 195 = .ok (.iload 4, 2) := by decide +kernel
theorem d10_197 : decode (xcode 10) 197 = .ok (.aload_n 0, 1) := by decide +kernel
theorem d10_198 : decode (xcode 10) 198 = .ok (.getfield 15, 3) := by decide +kernel
theorem d10_201 : decode (xcode 10) 201 = .ok (.iload_n 2, 1) := by decide +kernel
theorem d10_202 : decode (xcode 10) 202 = .ok (.iconst 1, 1) := by decide +kernel
theorem d10_203 : decode (xcode 10) 203 = .ok (.isub, 1) := by decide +kernel
theorem d10_204 : decode (xcode 10) 204 = .ok (.laload, 1) := by decide +kernel
theorem d10_205 : decode (xcode 10) 205 = .ok (.aload_n 0, 1) := by decide +kernel
theorem d10_206 : decode (xcode 10) 206 = .ok (.getfield 15, 3) := by decide +kernel
theorem d10_209 : decode (xcode 10) 209 = .ok (.iload_n 2, 1) := by decide +kernel
theorem d10_210 : decode (xcode 10) 210 = .ok (.laload, 1) := by decide +kernel
theorem d10_211 : decode (xcode 10) 211 = .ok (.invokestatic 31, 3) := by decide +kernel
theorem d10_214 : decode (xcode 10) 214 = .ok (.lastore, 1) := by decide +kernel
theorem d10_215 : decode (xcode 10) 215 = .ok (.iinc 3 1, 3) := by decide +kernel
theorem d10_218 : decode (xcode 10) 218 = .ok (.goto (-214), 3) := by decide +kernel
theorem d10_221 : decode (xcode 10) 221 = .ok (.lconst 0, 1) := by decide +kernel
theorem d10_222 : decode (xcode 10) 222 = .ok (.lreturn, 1) := by decide +kernel
noncomputable def f_Rule_worth_42_b215 (i0 : Nat) (v2 : Int32) (v3 : Int32) (h : xH) : Option ((Int32 × Int32 × xH) ⊕ (Int64 × xH)) :=
  xlet (v3 + (1 : Int32)) fun v3_7 =>
  some (Sum.inl (v2, v3_7, h))
set_option maxHeartbeats 4000000 in
set_option maxRecDepth 100000 in
theorem f_Rule_worth_42_b215_ok {g : xG} {l : Launch} {d : Nat} {i0 : Nat} {v2 : Int32} {v3 : Int32} {h : xH} {o : ((Int32 × Int32 × xH) ⊕ (Int64 × xH))} {R : Option xV} {H' : xH} (hD : 1 ≤ d) (hf : f_Rule_worth_42_b215 i0 v2 v3 h = some o) (K1 : ∀ (w2 : Int32) (w3 : Int32) (h1 : xH), o = Sum.inl (w2, w3, h1) → xEv g l d 10 4 [(0, xr 2 (some i0)), (1, xr 42 (some 0)), (2, xi w2), (3, xi w3)] [] h1 R H') (K0 : ∀ (a : Int64) (h1 : xH), o = Sum.inr ((a, h1)) → R = some (xl a) ∧ H' = h1) : xEv g l d 10 215 [(0, xr 2 (some i0)), (1, xr 42 (some 0)), (2, xi v2), (3, xi v3)] [] h R H' := by
  unfold f_Rule_worth_42_b215 at hf
  obtain ⟨v3_7, ev3_7, hf⟩ := lk_let hf
  refine xe_iinc (v := v3_7) (b := 1) (ls2 := [(0, xr 2 (some i0)), (1, xr 42 (some 0)), (2, xi v2), (3, xi v3_7)]) d10_215 mx10 (by decide) rfl (by decide) ev3_7 rfl ?_
  refine xs_goto (tgt := 4) d10_218 (by decide) ?_
  exact K1 _ _ _ (Option.some.inj hf).symm
noncomputable def f_Rule_worth_42_b76 (i0 : Nat) (v2 : Int32) (v3 : Int32) (t0 : Int64) (t1 : Int32) (h : xH) : Option ((Int32 × Int32 × xH) ⊕ (Int64 × xH)) :=
  if xib t1 64 then (
  xlet (xsB h 19 i0 (vp_updL (h.2.2.2.2 19 i0) (t1).toNatClampNeg t0)) fun h12 =>
  xlet (v2 + (1 : Int32)) fun v2_13 =>
  f_Rule_worth_42_b215 i0 v2_13 v3 h12) else none
set_option maxHeartbeats 4000000 in
set_option maxRecDepth 100000 in
theorem f_Rule_worth_42_b76_ok {g : xG} {l : Launch} {d : Nat} {i0 : Nat} {v2 : Int32} {v3 : Int32} {t0 : Int64} {t1 : Int32} {h : xH} {o : ((Int32 × Int32 × xH) ⊕ (Int64 × xH))} {R : Option xV} {H' : xH} (hD : 1 ≤ d) (hf : f_Rule_worth_42_b76 i0 v2 v3 t0 t1 h = some o) (K1 : ∀ (w2 : Int32) (w3 : Int32) (h1 : xH), o = Sum.inl (w2, w3, h1) → xEv g l d 10 4 [(0, xr 2 (some i0)), (1, xr 42 (some 0)), (2, xi w2), (3, xi w3)] [] h1 R H') (K0 : ∀ (a : Int64) (h1 : xH), o = Sum.inr ((a, h1)) → R = some (xl a) ∧ H' = h1) : xEv g l d 10 76 [(0, xr 2 (some i0)), (1, xr 42 (some 0)), (2, xi v2), (3, xi v3)] [xl t0, xi t1, xr 19 (some i0)] h R H' := by
  unfold f_Rule_worth_42_b76 at hf
  obtain ⟨hin11, hf⟩ := lk_g hf
  obtain ⟨h12, eh12, hf⟩ := lk_let hf
  refine xe_last d10_76 (by decide) ak19 hin11  eh12 ?_
  obtain ⟨v2_13, ev2_13, hf⟩ := lk_let hf
  refine xe_iinc (v := v2_13) (b := 1) (ls2 := [(0, xr 2 (some i0)), (1, xr 42 (some 0)), (2, xi v2_13), (3, xi v3)]) d10_77 mx10 (by decide) rfl (by decide) ev2_13 rfl ?_
  refine xs_goto (tgt := 215) d10_80 (by decide) ?_
  exact f_Rule_worth_42_b215_ok hD hf K1 K0
noncomputable def f_Rule_worth_42_b43 (i0 : Nat) (v2 : Int32) (v3 : Int32) (v4 : Int32) (h : xH) : Option ((Int32 × Int32 × xH) ⊕ (Int64 × xH)) :=
  if (64 : Int32) ≤ v2 then (
  f_Rule_worth_42_b215 i0 v2 v3 h) else (
  if v4 < (100 : Int32) then (
  (f_Rule_wordAmong_42 v4 h).bind fun r9 =>
  f_Rule_worth_42_b76 i0 v2 v3 r9 v2 h) else (
  f_Rule_worth_42_b76 i0 v2 v3 ((v4 - (100 : Int32)).toInt64) v2 h))
set_option maxHeartbeats 4000000 in
set_option maxRecDepth 100000 in
theorem f_Rule_worth_42_b43_ok {g : xG} {l : Launch} {d : Nat} {i0 : Nat} {v2 : Int32} {v3 : Int32} {v4 : Int32} {h : xH} {o : ((Int32 × Int32 × xH) ⊕ (Int64 × xH))} {R : Option xV} {H' : xH} (hD : 1 ≤ d) (hf : f_Rule_worth_42_b43 i0 v2 v3 v4 h = some o) (K1 : ∀ (w2 : Int32) (w3 : Int32) (h1 : xH), o = Sum.inl (w2, w3, h1) → xEv g l d 10 4 [(0, xr 2 (some i0)), (1, xr 42 (some 0)), (2, xi w2), (3, xi w3)] [] h1 R H') (K0 : ∀ (a : Int64) (h1 : xH), o = Sum.inr ((a, h1)) → R = some (xl a) ∧ H' = h1) : xEv g l d 10 43 [(0, xr 2 (some i0)), (1, xr 42 (some 0)), (2, xi v2), (3, xi v3), (4, xi v4)] [] h R H' := by
  unfold f_Rule_worth_42_b43 at hf
  refine xs_iload_n d10_43 rfl ?_
  refine xs_bipush (v := 64) d10_44 (by decide) ?_
  rcases lk_if hf with ⟨hc6, hf⟩ | ⟨hc6, hf⟩
  · refine xs_icmp_ge (tgt := 215) d10_46 (by decide) (fun _ => ?_) (fun hn => absurd hc6 hn)
    refine xs_pick [0, 1, 2, 3] rfl ?_
    exact f_Rule_worth_42_b215_ok hD hf K1 K0
  · refine xs_icmp_ge (tgt := 215) d10_46 (by decide) (fun hp => absurd hp hc6) (fun _ => ?_)
    refine xs_aload_n d10_49 rfl ?_
    refine xe_getc (j := i0) d10_50 ky10 fl63 fk2_1 (by omega) ?_
    refine xs_iload_n d10_53 rfl ?_
    refine xs_iload d10_54 rfl ?_
    refine xs_bipush (v := 100) d10_56 (by decide) ?_
    rcases lk_if hf with ⟨hc8, hf⟩ | ⟨hc8, hf⟩
    · refine xs_icmp_lt (tgt := 70) d10_58 (by decide) (fun _ => ?_) (fun hn => absurd hc8 hn)
      refine xs_aload_n d10_70 rfl ?_
      refine xs_iload d10_71 rfl ?_
      obtain ⟨r9, hc10, hf⟩ := lk_b hf
      refine xe_calls1 (as := [xr 42 (some 0), xi v4]) (st := [xi v2, xr 19 (some i0)]) (h2 := h) (d2 := d - 1) d10_73 ky10 ml85 st11 rfl na11 (Nat.le_of_ble_eq_true rfl) (by omega) (f_Rule_wordAmong_42_ok (by omega) hc10) ?_
      refine xs_pick [0, 1, 2, 3] rfl ?_
      exact f_Rule_worth_42_b76_ok hD hf K1 K0
    · refine xs_icmp_lt (tgt := 70) d10_58 (by decide) (fun hp => absurd hp hc8) (fun _ => ?_)
      refine xs_iload d10_61 rfl ?_
      refine xs_bipush (v := 100) d10_63 (by decide) ?_
      refine xs_isub d10_65 ?_
      refine xs_i2l d10_66 ?_
      refine xs_goto (tgt := 76) d10_67 (by decide) ?_
      refine xs_pick [0, 1, 2, 3] rfl ?_
      exact f_Rule_worth_42_b76_ok hD hf K1 K0
noncomputable def f_Rule_worth_42_b90 (i0 : Nat) (v2 : Int32) (h : xH) : Option (Int64 × xH) :=
  if v2 < (1 : Int32) then (
  some (((0 : Int64), h))) else (
  if xib (v2 - (1 : Int32)) 64 then (
  some ((h.2.2.2.2 19 i0 (v2 - (1 : Int32)).toNatClampNeg, h))) else none)
set_option maxHeartbeats 4000000 in
set_option maxRecDepth 100000 in
theorem f_Rule_worth_42_b90_ok {g : xG} {l : Launch} {d : Nat} {i0 : Nat} {v2 : Int32} {h : xH} {o : (Int64 × xH)} {R : Option xV} {H' : xH} (hD : 1 ≤ d) (hf : f_Rule_worth_42_b90 i0 v2 h = some o) (K0 : ∀ (a : Int64) (h1 : xH), o = (a, h1) → R = some (xl a) ∧ H' = h1) : xEv g l d 10 90 [(0, xr 2 (some i0)), (2, xi v2)] [] h R H' := by
  unfold f_Rule_worth_42_b90 at hf
  refine xs_iload_n d10_90 rfl ?_
  refine xs_iconst (v := 1) d10_91 (by decide) ?_
  rcases lk_if hf with ⟨hc16, hf⟩ | ⟨hc16, hf⟩
  · refine xs_icmp_lt (tgt := 106) d10_92 (by decide) (fun _ => ?_) (fun hn => absurd hc16 hn)
    refine xs_lconst (v := 0) d10_106 (by decide) ?_
    obtain ⟨eR, eH⟩ := K0 _ _ (Option.some.inj hf).symm
    subst eR; subst eH
    exact xs_lret d10_107 rt10
  · refine xs_icmp_lt (tgt := 106) d10_92 (by decide) (fun hp => absurd hp hc16) (fun _ => ?_)
    refine xs_aload_n d10_95 rfl ?_
    refine xe_getc (j := i0) d10_96 ky10 fl63 fk2_1 (by omega) ?_
    refine xs_iload_n d10_99 rfl ?_
    refine xs_iconst (v := 1) d10_100 (by decide) ?_
    refine xs_isub d10_101 ?_
    obtain ⟨hin17, hf⟩ := lk_g hf
    refine xe_lald d10_102 (by decide) ak19 hin17 ?_
    refine xs_goto (tgt := 107) d10_103 (by decide) ?_
    obtain ⟨eR, eH⟩ := K0 _ _ (Option.some.inj hf).symm
    subst eR; subst eH
    exact xs_lret d10_107 rt10
noncomputable def f_Rule_worth_42_b142 (i0 : Nat) (v3 : Int32) (h : xH) : Option ((Int32 × Int32 × xH) ⊕ (Int64 × xH)) :=
  f_Rule_worth_42_b215 i0 (0 : Int32) v3 h
set_option maxHeartbeats 4000000 in
set_option maxRecDepth 100000 in
theorem f_Rule_worth_42_b142_ok {g : xG} {l : Launch} {d : Nat} {i0 : Nat} {v3 : Int32} {h : xH} {o : ((Int32 × Int32 × xH) ⊕ (Int64 × xH))} {R : Option xV} {H' : xH} (hD : 1 ≤ d) (hf : f_Rule_worth_42_b142 i0 v3 h = some o) (K1 : ∀ (w2 : Int32) (w3 : Int32) (h1 : xH), o = Sum.inl (w2, w3, h1) → xEv g l d 10 4 [(0, xr 2 (some i0)), (1, xr 42 (some 0)), (2, xi w2), (3, xi w3)] [] h1 R H') (K0 : ∀ (a : Int64) (h1 : xH), o = Sum.inr ((a, h1)) → R = some (xl a) ∧ H' = h1) : xEv g l d 10 142 [(0, xr 2 (some i0)), (1, xr 42 (some 0)), (3, xi v3)] [] h R H' := by
  unfold f_Rule_worth_42_b142 at hf
  refine xs_iconst (v := 0) d10_142 (by decide) ?_
  refine xe_istore_n (v := (0 : Int32)) (ls2 := [(0, xr 2 (some i0)), (1, xr 42 (some 0)), (2, xi (0 : Int32)), (3, xi v3)]) d10_143 mx10 (by decide) rfl rfl ?_
  refine xs_goto (tgt := 215) d10_144 (by decide) ?_
  exact f_Rule_worth_42_b215_ok hD hf K1 K0
noncomputable def f_Rule_worth_42_b133 (i0 : Nat) (v2 : Int32) (h : xH) : Option (Int64 × xH) :=
  if xib (v2 - (2 : Int32)) 64 then (
  some ((h.2.2.2.2 19 i0 (v2 - (2 : Int32)).toNatClampNeg, h))) else none
set_option maxHeartbeats 4000000 in
set_option maxRecDepth 100000 in
theorem f_Rule_worth_42_b133_ok {g : xG} {l : Launch} {d : Nat} {i0 : Nat} {v2 : Int32} {h : xH} {o : (Int64 × xH)} {R : Option xV} {H' : xH} (hD : 1 ≤ d) (hf : f_Rule_worth_42_b133 i0 v2 h = some o) (K0 : ∀ (a : Int64) (h1 : xH), o = (a, h1) → R = some (xl a) ∧ H' = h1) : xEv g l d 10 133 [(0, xr 2 (some i0)), (2, xi v2)] [] h R H' := by
  unfold f_Rule_worth_42_b133 at hf
  refine xs_aload_n d10_133 rfl ?_
  refine xe_getc (j := i0) d10_134 ky10 fl63 fk2_1 (by omega) ?_
  refine xs_iload_n d10_137 rfl ?_
  refine xs_iconst (v := 2) d10_138 (by decide) ?_
  refine xs_isub d10_139 ?_
  obtain ⟨hin22, hf⟩ := lk_g hf
  refine xe_lald d10_140 (by decide) ak19 hin22 ?_
  obtain ⟨eR, eH⟩ := K0 _ _ (Option.some.inj hf).symm
  subst eR; subst eH
  exact xs_lret d10_141 rt10
noncomputable def f_Rule_worth_42_s4 (i0 : Nat) (v2 : Int32) (v3 : Int32) (h : xH) : Option ((Int32 × Int32 × xH) ⊕ (Int64 × xH)) :=
  if (h.1 2 2 i0) ≤ v3 then (
  some (Sum.inr (((0 : Int64), h)))) else (
  if (400 : Int32) ≤ v3 then (
  some (Sum.inr (((0 : Int64), h)))) else (
  if xib v3 400 then (
  xlet (h.2.2.2.1 18 i0 (v3).toNatClampNeg) fun v4_4 =>
  if (100 : Int32) ≤ v4_4 then (
  f_Rule_worth_42_b43 i0 v2 v3 v4_4 h) else (
  if (12 : Int32) ≤ v4_4 then (
  if v4_4 = (26 : Int32) then (
  xup (f_Rule_worth_42_b90 i0 v2 h)) else (
  if v4_4 = (25 : Int32) then (
  if v2 < (2 : Int32) then (
  f_Rule_worth_42_b142 i0 v3 h) else (
  if xib (v2 - (1 : Int32)) 64 then (
  if (lg_cmp (h.2.2.2.2 19 i0 (v2 - (1 : Int32)).toNatClampNeg) (0 : Int64)) = (0 : Int32) then (
  f_Rule_worth_42_b142 i0 v3 h) else (
  xup (f_Rule_worth_42_b133 i0 v2 h))) else none)) else (
  if v4_4 = (24 : Int32) then (
  if v2 < (1 : Int32) then (
  f_Rule_worth_42_b215 i0 v2 v3 h) else (
  if xib (v2 - (1 : Int32)) 64 then (
  if xib (v2 - (1 : Int32)) 64 then (
  xlet (xsB h 19 i0 (vp_updL (h.2.2.2.2 19 i0) (v2 - (1 : Int32)).toNatClampNeg ((1 : Int64) - (h.2.2.2.2 19 i0 (v2 - (1 : Int32)).toNatClampNeg)))) fun h27 =>
  f_Rule_worth_42_b215 i0 v2 v3 h27) else none) else none)) else (
  if v2 < (2 : Int32) then (
  f_Rule_worth_42_b215 i0 v2 v3 h) else (
  xlet (v2 + (-1 : Int32)) fun v2_29 =>
  if xib (v2_29 - (1 : Int32)) 64 then (
  if xib v2_29 64 then (
  (f_Rule_joined v4_4 (h.2.2.2.2 19 i0 (v2_29 - (1 : Int32)).toNatClampNeg) (h.2.2.2.2 19 i0 (v2_29).toNatClampNeg) h).bind fun r32 =>
  if xib (v2_29 - (1 : Int32)) 64 then (
  xlet (xsB h 19 i0 (vp_updL (h.2.2.2.2 19 i0) (v2_29 - (1 : Int32)).toNatClampNeg r32)) fun h35 =>
  f_Rule_worth_42_b215 i0 v2_29 v3 h35) else none) else none) else none))))) else (
  f_Rule_worth_42_b43 i0 v2 v3 v4_4 h))) else none))
set_option maxHeartbeats 4000000 in
set_option maxRecDepth 100000 in
theorem f_Rule_worth_42_s4_ok {g : xG} {l : Launch} {d : Nat} {i0 : Nat} {v2 : Int32} {v3 : Int32} {h : xH} {o : ((Int32 × Int32 × xH) ⊕ (Int64 × xH))} {R : Option xV} {H' : xH} (hD : 1 ≤ d) (hf : f_Rule_worth_42_s4 i0 v2 v3 h = some o) (K1 : ∀ (w2 : Int32) (w3 : Int32) (h1 : xH), o = Sum.inl (w2, w3, h1) → xEv g l d 10 4 [(0, xr 2 (some i0)), (1, xr 42 (some 0)), (2, xi w2), (3, xi w3)] [] h1 R H') (K0 : ∀ (a : Int64) (h1 : xH), o = Sum.inr ((a, h1)) → R = some (xl a) ∧ H' = h1) : xEv g l d 10 4 [(0, xr 2 (some i0)), (1, xr 42 (some 0)), (2, xi v2), (3, xi v3)] [] h R H' := by
  unfold f_Rule_worth_42_s4 at hf
  refine xs_iload_n d10_4 rfl ?_
  refine xs_aload_n d10_5 rfl ?_
  refine xe_geti d10_6 ky10 fl64 fk2_2 ?_
  rcases lk_if hf with ⟨hc1, hf⟩ | ⟨hc1, hf⟩
  · refine xs_icmp_ge (tgt := 221) d10_9 (by decide) (fun _ => ?_) (fun hn => absurd hc1 hn)
    refine xs_lconst (v := 0) d10_221 (by decide) ?_
    obtain ⟨eR, eH⟩ := K0 _ _ (Option.some.inj hf).symm
    subst eR; subst eH
    exact xs_lret d10_222 rt10
  · refine xs_icmp_ge (tgt := 221) d10_9 (by decide) (fun hp => absurd hp hc1) (fun _ => ?_)
    refine xs_iload_n d10_12 rfl ?_
    refine xs_aload_n d10_13 rfl ?_
    refine xe_getc (j := i0) d10_14 ky10 fl62 fk2_0 (by omega) ?_
    refine xe_alen (v := 400) d10_17 (by decide) ak18 (by decide) (by decide) ?_
    rcases lk_if hf with ⟨hc2, hf⟩ | ⟨hc2, hf⟩
    · refine xs_icmp_ge (tgt := 221) d10_18 (by decide) (fun _ => ?_) (fun hn => absurd hc2 hn)
      refine xs_lconst (v := 0) d10_221 (by decide) ?_
      obtain ⟨eR, eH⟩ := K0 _ _ (Option.some.inj hf).symm
      subst eR; subst eH
      exact xs_lret d10_222 rt10
    · refine xs_icmp_ge (tgt := 221) d10_18 (by decide) (fun hp => absurd hp hc2) (fun _ => ?_)
      refine xs_aload_n d10_21 rfl ?_
      refine xe_getc (j := i0) d10_22 ky10 fl62 fk2_0 (by omega) ?_
      refine xs_iload_n d10_25 rfl ?_
      obtain ⟨hin3, hf⟩ := lk_g hf
      refine xe_iald d10_26 (by decide) ak18 hin3 ?_
      obtain ⟨v4_4, ev4_4, hf⟩ := lk_let hf
      refine xe_istore (v := v4_4) (ls2 := [(0, xr 2 (some i0)), (1, xr 42 (some 0)), (2, xi v2), (3, xi v3), (4, xi v4_4)]) d10_27 mx10 (by decide) ev4_4 rfl ?_
      refine xs_iload d10_29 rfl ?_
      refine xs_bipush (v := 100) d10_31 (by decide) ?_
      rcases lk_if hf with ⟨hc5, hf⟩ | ⟨hc5, hf⟩
      · refine xs_icmp_ge (tgt := 43) d10_33 (by decide) (fun _ => ?_) (fun hn => absurd hc5 hn)
        exact f_Rule_worth_42_b43_ok hD hf K1 K0
      · refine xs_icmp_ge (tgt := 43) d10_33 (by decide) (fun hp => absurd hp hc5) (fun _ => ?_)
        refine xs_iload d10_36 rfl ?_
        refine xs_bipush (v := 12) d10_38 (by decide) ?_
        rcases lk_if hf with ⟨hc14, hf⟩ | ⟨hc14, hf⟩
        · refine xs_icmp_ge (tgt := 83) d10_40 (by decide) (fun _ => ?_) (fun hn => absurd hc14 hn)
          refine xs_iload d10_83 rfl ?_
          refine xs_bipush (v := 26) d10_85 (by decide) ?_
          rcases lk_if hf with ⟨hc15, hf⟩ | ⟨hc15, hf⟩
          · refine xs_icmp_ne (tgt := 108) d10_87 (by decide) (fun _ => ?_) (fun hn => absurd hc15 hn)
            refine xs_pick [0, 2] rfl ?_
            obtain ⟨x0, hf, ex0⟩ := lk_up hf
            exact f_Rule_worth_42_b90_ok hD hf (fun u0 u1 e => K0 u0 u1 (ex0.trans (congrArg Sum.inr e)))
          · refine xs_icmp_ne (tgt := 108) d10_87 (by decide) (fun hp => absurd hp hc15) (fun _ => ?_)
            refine xs_iload d10_108 rfl ?_
            refine xs_bipush (v := 25) d10_110 (by decide) ?_
            rcases lk_if hf with ⟨hc18, hf⟩ | ⟨hc18, hf⟩
            · refine xs_icmp_ne (tgt := 147) d10_112 (by decide) (fun _ => ?_) (fun hn => absurd hc18 hn)
              refine xs_iload_n d10_115 rfl ?_
              refine xs_iconst (v := 2) d10_116 (by decide) ?_
              rcases lk_if hf with ⟨hc19, hf⟩ | ⟨hc19, hf⟩
              · refine xs_icmp_lt (tgt := 142) d10_117 (by decide) (fun _ => ?_) (fun hn => absurd hc19 hn)
                refine xs_pick [0, 1, 3] rfl ?_
                exact f_Rule_worth_42_b142_ok hD hf K1 K0
              · refine xs_icmp_lt (tgt := 142) d10_117 (by decide) (fun hp => absurd hp hc19) (fun _ => ?_)
                refine xs_aload_n d10_120 rfl ?_
                refine xe_getc (j := i0) d10_121 ky10 fl63 fk2_1 (by omega) ?_
                refine xs_iload_n d10_124 rfl ?_
                refine xs_iconst (v := 1) d10_125 (by decide) ?_
                refine xs_isub d10_126 ?_
                obtain ⟨hin20, hf⟩ := lk_g hf
                refine xe_lald d10_127 (by decide) ak19 hin20 ?_
                refine xs_lconst (v := 0) d10_128 (by decide) ?_
                refine xs_lcmp d10_129 ?_
                rcases lk_if hf with ⟨hc21, hf⟩ | ⟨hc21, hf⟩
                · refine xs_if_eq (tgt := 142) d10_130 (by decide) (fun _ => ?_) (fun hn => absurd hc21 hn)
                  refine xs_pick [0, 1, 3] rfl ?_
                  exact f_Rule_worth_42_b142_ok hD hf K1 K0
                · refine xs_if_eq (tgt := 142) d10_130 (by decide) (fun hp => absurd hp hc21) (fun _ => ?_)
                  refine xs_pick [0, 2] rfl ?_
                  obtain ⟨x0, hf, ex0⟩ := lk_up hf
                  exact f_Rule_worth_42_b133_ok hD hf (fun u0 u1 e => K0 u0 u1 (ex0.trans (congrArg Sum.inr e)))
            · refine xs_icmp_ne (tgt := 147) d10_112 (by decide) (fun hp => absurd hp hc18) (fun _ => ?_)
              refine xs_iload d10_147 rfl ?_
              refine xs_bipush (v := 24) d10_149 (by decide) ?_
              rcases lk_if hf with ⟨hc23, hf⟩ | ⟨hc23, hf⟩
              · refine xs_icmp_ne (tgt := 180) d10_151 (by decide) (fun _ => ?_) (fun hn => absurd hc23 hn)
                refine xs_iload_n d10_154 rfl ?_
                refine xs_iconst (v := 1) d10_155 (by decide) ?_
                rcases lk_if hf with ⟨hc24, hf⟩ | ⟨hc24, hf⟩
                · refine xs_icmp_lt (tgt := 215) d10_156 (by decide) (fun _ => ?_) (fun hn => absurd hc24 hn)
                  refine xs_pick [0, 1, 2, 3] rfl ?_
                  exact f_Rule_worth_42_b215_ok hD hf K1 K0
                · refine xs_icmp_lt (tgt := 215) d10_156 (by decide) (fun hp => absurd hp hc24) (fun _ => ?_)
                  refine xs_aload_n d10_159 rfl ?_
                  refine xe_getc (j := i0) d10_160 ky10 fl63 fk2_1 (by omega) ?_
                  refine xs_iload_n d10_163 rfl ?_
                  refine xs_iconst (v := 1) d10_164 (by decide) ?_
                  refine xs_isub d10_165 ?_
                  refine xs_lconst (v := 1) d10_166 (by decide) ?_
                  refine xs_aload_n d10_167 rfl ?_
                  refine xe_getc (j := i0) d10_168 ky10 fl63 fk2_1 (by omega) ?_
                  refine xs_iload_n d10_171 rfl ?_
                  refine xs_iconst (v := 1) d10_172 (by decide) ?_
                  refine xs_isub d10_173 ?_
                  obtain ⟨hin25, hf⟩ := lk_g hf
                  refine xe_lald d10_174 (by decide) ak19 hin25 ?_
                  refine xs_lsub d10_175 ?_
                  obtain ⟨hin26, hf⟩ := lk_g hf
                  obtain ⟨h27, eh27, hf⟩ := lk_let hf
                  refine xe_last d10_176 (by decide) ak19 hin26  eh27 ?_
                  refine xs_goto (tgt := 215) d10_177 (by decide) ?_
                  refine xs_pick [0, 1, 2, 3] rfl ?_
                  exact f_Rule_worth_42_b215_ok hD hf K1 K0
              · refine xs_icmp_ne (tgt := 180) d10_151 (by decide) (fun hp => absurd hp hc23) (fun _ => ?_)
                refine xs_iload_n d10_180 rfl ?_
                refine xs_iconst (v := 2) d10_181 (by decide) ?_
                rcases lk_if hf with ⟨hc28, hf⟩ | ⟨hc28, hf⟩
                · refine xs_icmp_lt (tgt := 215) d10_182 (by decide) (fun _ => ?_) (fun hn => absurd hc28 hn)
                  refine xs_pick [0, 1, 2, 3] rfl ?_
                  exact f_Rule_worth_42_b215_ok hD hf K1 K0
                · refine xs_icmp_lt (tgt := 215) d10_182 (by decide) (fun hp => absurd hp hc28) (fun _ => ?_)
                  obtain ⟨v2_29, ev2_29, hf⟩ := lk_let hf
                  refine xe_iinc (v := v2_29) (b := -1) (ls2 := [(0, xr 2 (some i0)), (1, xr 42 (some 0)), (2, xi v2_29), (3, xi v3), (4, xi v4_4)]) d10_185 mx10 (by decide) rfl (by decide) ev2_29 rfl ?_
                  refine xs_aload_n d10_188 rfl ?_
                  refine xe_getc (j := i0) d10_189 ky10 fl63 fk2_1 (by omega) ?_
                  refine xs_iload_n d10_192 rfl ?_
                  refine xs_iconst (v := 1) d10_193 (by decide) ?_
                  refine xs_isub d10_194 ?_
                  refine xs_iload d10_195 rfl ?_
                  refine xs_aload_n d10_197 rfl ?_
                  refine xe_getc (j := i0) d10_198 ky10 fl63 fk2_1 (by omega) ?_
                  refine xs_iload_n d10_201 rfl ?_
                  refine xs_iconst (v := 1) d10_202 (by decide) ?_
                  refine xs_isub d10_203 ?_
                  obtain ⟨hin30, hf⟩ := lk_g hf
                  refine xe_lald d10_204 (by decide) ak19 hin30 ?_
                  refine xs_aload_n d10_205 rfl ?_
                  refine xe_getc (j := i0) d10_206 ky10 fl63 fk2_1 (by omega) ?_
                  refine xs_iload_n d10_209 rfl ?_
                  obtain ⟨hin31, hf⟩ := lk_g hf
                  refine xe_lald d10_210 (by decide) ak19 hin31 ?_
                  obtain ⟨r32, hc33, hf⟩ := lk_b hf
                  refine xe_calls1 (as := [xi v4_4, xl (h.2.2.2.2 19 i0 (v2_29 - (1 : Int32)).toNatClampNeg), xl (h.2.2.2.2 19 i0 (v2_29).toNatClampNeg)]) (st := [xi (v2_29 - (1 : Int32)), xr 19 (some i0)]) (h2 := h) (d2 := d - 1) d10_211 ky10 ml86 st12 rfl na12 (Nat.le_of_ble_eq_true rfl) (by omega) (f_Rule_joined_ok (by omega) hc33) ?_
                  obtain ⟨hin34, hf⟩ := lk_g hf
                  obtain ⟨h35, eh35, hf⟩ := lk_let hf
                  refine xe_last d10_214 (by decide) ak19 hin34  eh35 ?_
                  refine xs_pick [0, 1, 2, 3] rfl ?_
                  exact f_Rule_worth_42_b215_ok hD hf K1 K0
        · refine xs_icmp_ge (tgt := 83) d10_40 (by decide) (fun hp => absurd hp hc14) (fun _ => ?_)
          exact f_Rule_worth_42_b43_ok hD hf K1 K0
noncomputable def f_Rule_worth_42_l4 (i0 : Nat) (v2 : Int32) (v3 : Int32) (h : xH) : Option (Int64 × xH) :=
  whl (fun s => f_Rule_worth_42_s4 i0 s.1 s.2.1 s.2.2) (v2, v3, h)
theorem f_Rule_worth_42_l4_ok {g : xG} {l : Launch} {d : Nat} {i0 : Nat} {v2 : Int32} {v3 : Int32} {h : xH} {o : (Int64 × xH)} {R : Option xV} {H' : xH} (hD : 1 ≤ d) (hf : f_Rule_worth_42_l4 i0 v2 v3 h = some o) (K0 : ∀ (a : Int64) (h1 : xH), o = (a, h1) → R = some (xl a) ∧ H' = h1) : xEv g l d 10 4 [(0, xr 2 (some i0)), (1, xr 42 (some 0)), (2, xi v2), (3, xi v3)] [] h R H' := by
  obtain ⟨n, hn⟩ := whl_iff.mp hf
  clear hf
  induction n generalizing v2 v3 h with
  | zero => cases hn
  | succ n ih =>
    obtain ⟨o2, hs, hn⟩ := lk_b (show (f_Rule_worth_42_s4 i0 v2 v3 h).bind (fun o => Sum.elim (itn _ n) some o) = some o from hn)
    exact f_Rule_worth_42_s4_ok hD hs (fun u0 u1 u2 e => ih (by rw [e] at hn; exact hn)) (fun u0 u1 e => K0 u0 u1 (by rw [e] at hn; exact (Option.some.inj hn).symm))
noncomputable def f_Rule_worth_42_e (i0 : Nat) (h : xH) : Option (Int64 × xH) :=
  f_Rule_worth_42_l4 i0 (0 : Int32) (0 : Int32) h
set_option maxHeartbeats 4000000 in
set_option maxRecDepth 100000 in
theorem f_Rule_worth_42_e_ok {g : xG} {l : Launch} {d : Nat} {i0 : Nat} {h : xH} {o : (Int64 × xH)} {R : Option xV} {H' : xH} (hD : 1 ≤ d) (hf : f_Rule_worth_42_e i0 h = some o) (K0 : ∀ (a : Int64) (h1 : xH), o = (a, h1) → R = some (xl a) ∧ H' = h1) : xEv g l d 10 0 [(0, xr 2 (some i0)), (1, xr 42 (some 0))] [] h R H' := by
  unfold f_Rule_worth_42_e at hf
  refine xs_iconst (v := 0) d10_0 (by decide) ?_
  refine xe_istore_n (v := (0 : Int32)) (ls2 := [(0, xr 2 (some i0)), (1, xr 42 (some 0)), (2, xi (0 : Int32))]) d10_1 mx10 (by decide) rfl rfl ?_
  refine xs_iconst (v := 0) d10_2 (by decide) ?_
  refine xe_istore_n (v := (0 : Int32)) (ls2 := [(0, xr 2 (some i0)), (1, xr 42 (some 0)), (2, xi (0 : Int32)), (3, xi (0 : Int32))]) d10_3 mx10 (by decide) rfl rfl ?_
  exact f_Rule_worth_42_l4_ok hD hf K0
noncomputable def f_Rule_worth_42 (i0 : Nat) (h : xH) : Option (Int64 × xH) := f_Rule_worth_42_e i0 h
theorem f_Rule_worth_42_ok {g : xG} {l : Launch} {d : Nat} {i0 : Nat} {h : xH} {r : Int64} {h1 : xH} (hD : 1 ≤ d) (hf : f_Rule_worth_42 i0 h = some (r, h1)) : xC g l d 10 [xr 2 (some i0), xr 42 (some 0)] h (some (xl r)) h1 :=
  xC_of (by decide) (Nat.le_of_ble_eq_true rfl) (f_Rule_worth_42_e_ok hD hf (fun _ _ e => by cases e; exact ⟨rfl, rfl⟩))
theorem d90_0 : decode (xcode 90) 0 = .ok (.aload_n 0, 1) := by decide +kernel
theorem d90_1 : decode (xcode 90) 1 = .ok (.iload_n 1, 1) := by decide +kernel
theorem d90_2 : decode (xcode 90) 2 = .ok (.invokevirtual 84, 3) := by decide +kernel
theorem d90_5 : decode (xcode 90) 5 = .ok (.iconst (-1), 1) := by decide +kernel
theorem d90_6 : decode (xcode 90) 6 = .ok (.istore_n 2, 1) := by decide +kernel
theorem d90_7 : decode (xcode 90) 7 = .ok (.lconst 0, 1) := by decide +kernel
theorem d90_8 : decode (xcode 90) 8 = .ok (.lstore_n 3, 1) := by decide +kernel
theorem d90_9 : decode (xcode 90) 9 = .ok (.iconst 0, 1) := by decide +kernel
theorem d90_10 : decode (xcode 90) 10 = .ok (.istore 5, 2) := by decide +kernel
theorem d90_12 : decode (xcode 90) 12 = .ok (.iload 5, 2) := by decide +kernel
theorem d90_14 : decode (xcode 90) 14 = .ok (.bipush 8, 2) := by decide +kernel
theorem d90_16 : decode (xcode 90) 16 = .ok (.if_icmp .ge 50, 3) := by decide +kernel
theorem d90_19 : decode (xcode 90) 19 = .ok (.iload_n 1, 1) := by decide +kernel
theorem d90_20 : decode (xcode 90) 20 = .ok (.iload 5, 2) := by decide +kernel
theorem d90_22 : decode (xcode 90) 22 = .ok (.ishr, 1) := by decide +kernel
theorem d90_23 : decode (xcode 90) 23 = .ok (.iconst 1, 1) := by decide +kernel
theorem d90_24 : decode (xcode 90) 24 = .ok (.iand, 1) := by decide +kernel
theorem d90_25 : decode (xcode 90) 25 = .ok (.ifCond .eq 35, 3) := by decide +kernel
theorem d90_28 : decode (xcode 90) 28 = .ok (.aload_n 0, 1) := by decide +kernel
theorem d90_29 : decode (xcode 90) 29 = .ok (.iload 5, 2) := by decide +kernel
theorem d90_31 : decode (xcode 90) 31 = .ok (.invokevirtual 87, 3) := by decide +kernel
theorem d90_34 : decode (xcode 90) 34 = .ok (.aload_n 0, 1) := by decide +kernel
theorem d90_35 : decode (xcode 90) 35 = .ok (.getfield 31, 3) := by decide +kernel
theorem d90_38 : decode (xcode 90) 38 = .ok (.aload_n 0, 1) := by decide +kernel
theorem d90_39 : decode (xcode 90) 39 = .ok (.getfield 20, 3) := by decide +kernel
theorem d90_42 : decode (xcode 90) 42 = .ok (.invokevirtual 90, 3) := by decide +kernel
theorem d90_45 : decode (xcode 90) 45 = .ok (.lstore 6, 2) := by decide +kernel
theorem d90_47 : decode (xcode 90) 47 = .ok (.lload 6, 2) := by decide +kernel
theorem d90_49 : decode (xcode 90) 49 = .ok (.lload_n 3, 1) := by decide +kernel
theorem d90_50 : decode (xcode 90) 50 = .ok (.lcmp, 1) := by decide +kernel
theorem d90_51 : decode (xcode 90) 51 = .ok (.ifCond .le 9, 3) := by decide +kernel
theorem d90_54 : decode (xcode 90) 54 = .ok (.lload 6, 2) := by decide +kernel
theorem d90_56 : decode (xcode 90) 56 = .ok (.lstore_n 3, 1) := by decide +kernel
theorem d90_57 : decode (xcode 90) 57 = .ok (.iload 5, 2) := by decide +kernel
theorem d90_59 : decode (xcode 90) 59 = .ok (.istore_n 2, 1) := by decide +kernel
theorem d90_60 : decode (xcode 90) 60 = .ok (.iinc 5 1, 3) := by decide +kernel
theorem d90_63 : decode (xcode 90) 63 = .ok (.goto (-51), 3) := by decide +kernel
theorem d90_66 : decode (xcode 90) 66 = .ok (.iload_n 2, 1) := by decide +kernel
theorem d90_67 : decode (xcode 90) 67 = .ok (.ireturn, 1) := by decide +kernel
noncomputable def f_Walk_chosenOf_b60 (v1 : Int32) (v2 : Int32) (v3 : Int64) (v5 : Int32) (h : xH) : Option ((Int32 × Int64 × Int32 × xH) ⊕ (Int32 × xH)) :=
  xlet (v5 + (1 : Int32)) fun v5_6 =>
  some (Sum.inl (v2, v3, v5_6, h))
set_option maxHeartbeats 4000000 in
set_option maxRecDepth 100000 in
theorem f_Walk_chosenOf_b60_ok {g : xG} {l : Launch} {d : Nat} {v1 : Int32} {v2 : Int32} {v3 : Int64} {v5 : Int32} {h : xH} {o : ((Int32 × Int64 × Int32 × xH) ⊕ (Int32 × xH))} {R : Option xV} {H' : xH} (hD : 2 ≤ d) (hf : f_Walk_chosenOf_b60 v1 v2 v3 v5 h = some o) (K1 : ∀ (w2 : Int32) (w3 : Int64) (w5 : Int32) (h1 : xH), o = Sum.inl (w2, w3, w5, h1) → xEv g l d 90 12 [(0, xr 10 (some 0)), (1, xi v1), (2, xi w2), (3, xl w3), (5, xi w5)] [] h1 R H') (K0 : ∀ (a : Int32) (h1 : xH), o = Sum.inr ((a, h1)) → R = some (xi a) ∧ H' = h1) : xEv g l d 90 60 [(0, xr 10 (some 0)), (1, xi v1), (2, xi v2), (3, xl v3), (5, xi v5)] [] h R H' := by
  unfold f_Walk_chosenOf_b60 at hf
  obtain ⟨v5_6, ev5_6, hf⟩ := lk_let hf
  refine xe_iinc (v := v5_6) (b := 1) (ls2 := [(0, xr 10 (some 0)), (1, xi v1), (2, xi v2), (3, xl v3), (5, xi v5_6)]) d90_60 mx90 (by decide) rfl (by decide) ev5_6 rfl ?_
  refine xs_goto (tgt := 12) d90_63 (by decide) ?_
  exact K1 _ _ _ _ (Option.some.inj hf).symm
noncomputable def f_Walk_chosenOf_s12 (v1 : Int32) (v2 : Int32) (v3 : Int64) (v5 : Int32) (h : xH) : Option ((Int32 × Int64 × Int32 × xH) ⊕ (Int32 × xH)) :=
  if (8 : Int32) ≤ v5 then (
  some (Sum.inr ((v2, h)))) else (
  if ((v1 >>> (v5 &&& 31)) &&& (1 : Int32)) = (0 : Int32) then (
  f_Walk_chosenOf_b60 v1 v2 v3 v5 h) else (
  (f_Walk_tellOf v5 h).bind fun h9 =>
  (h9.2.2.1 10 4 0).bind fun i910 =>
  (f_Rule_worth_42 i910 h9).bind fun q13 =>
  if (lg_cmp q13.1 v3) ≤ (0 : Int32) then (
  f_Walk_chosenOf_b60 v1 v2 v3 v5 q13.2) else (
  f_Walk_chosenOf_b60 v1 v5 q13.1 v5 q13.2)))
set_option maxHeartbeats 4000000 in
set_option maxRecDepth 100000 in
theorem f_Walk_chosenOf_s12_ok {g : xG} {l : Launch} {d : Nat} {v1 : Int32} {v2 : Int32} {v3 : Int64} {v5 : Int32} {h : xH} {o : ((Int32 × Int64 × Int32 × xH) ⊕ (Int32 × xH))} {R : Option xV} {H' : xH} (hD : 2 ≤ d) (hf : f_Walk_chosenOf_s12 v1 v2 v3 v5 h = some o) (K1 : ∀ (w2 : Int32) (w3 : Int64) (w5 : Int32) (h1 : xH), o = Sum.inl (w2, w3, w5, h1) → xEv g l d 90 12 [(0, xr 10 (some 0)), (1, xi v1), (2, xi w2), (3, xl w3), (5, xi w5)] [] h1 R H') (K0 : ∀ (a : Int32) (h1 : xH), o = Sum.inr ((a, h1)) → R = some (xi a) ∧ H' = h1) : xEv g l d 90 12 [(0, xr 10 (some 0)), (1, xi v1), (2, xi v2), (3, xl v3), (5, xi v5)] [] h R H' := by
  unfold f_Walk_chosenOf_s12 at hf
  refine xs_iload d90_12 rfl ?_
  refine xs_bipush (v := 8) d90_14 (by decide) ?_
  rcases lk_if hf with ⟨hc4, hf⟩ | ⟨hc4, hf⟩
  · refine xs_icmp_ge (tgt := 66) d90_16 (by decide) (fun _ => ?_) (fun hn => absurd hc4 hn)
    refine xs_iload_n d90_66 rfl ?_
    obtain ⟨eR, eH⟩ := K0 _ _ (Option.some.inj hf).symm
    subst eR; subst eH
    exact xs_iret d90_67 rt90
  · refine xs_icmp_ge (tgt := 66) d90_16 (by decide) (fun hp => absurd hp hc4) (fun _ => ?_)
    refine xs_iload_n d90_19 rfl ?_
    refine xs_iload d90_20 rfl ?_
    refine xs_ishr d90_22 ?_
    refine xs_iconst (v := 1) d90_23 (by decide) ?_
    refine xs_iand d90_24 ?_
    rcases lk_if hf with ⟨hc5, hf⟩ | ⟨hc5, hf⟩
    · refine xs_if_eq (tgt := 60) d90_25 (by decide) (fun _ => ?_) (fun hn => absurd hc5 hn)
      exact f_Walk_chosenOf_b60_ok hD hf K1 K0
    · refine xs_if_eq (tgt := 60) d90_25 (by decide) (fun hp => absurd hp hc5) (fun _ => ?_)
      refine xs_aload_n d90_28 rfl ?_
      refine xs_iload d90_29 rfl ?_
      obtain ⟨h9, hc8, hf⟩ := lk_b hf
      refine xe_callv0 (as := [xi v5]) (st := []) (h2 := h9) (d2 := d - 1) d90_31 ky90 ml82 st92 (by decide) cn92 rfl na92 (Nat.le_of_ble_eq_true rfl) (by omega) (f_Walk_tellOf_ok (by omega) hc8) ?_
      refine xs_aload_n d90_34 rfl ?_
      refine xe_getd d90_35 ky90 fl117 fk10_4 ?_
      refine xs_aload_n d90_38 rfl ?_
      refine xe_getc (j := 0) d90_39 ky90 fl115 fk10_2 rfl ?_
      obtain ⟨i910, ei910, hf⟩ := lk_b hf
      rw [ei910]
      obtain ⟨q13, hc12, hf⟩ := lk_b hf
      refine xe_callv1 (as := [xr 42 (some 0)]) (st := []) (h2 := q13.2) (d2 := d - 1) d90_42 ky90 ml84 st10 (by decide) cn10 rfl na10 (Nat.le_of_ble_eq_true rfl) (by omega) (f_Rule_worth_42_ok (by omega) hc12) ?_
      refine xe_lstore (v := q13.1) (ls2 := [(0, xr 10 (some 0)), (1, xi v1), (2, xi v2), (3, xl v3), (5, xi v5), (6, xl q13.1)]) d90_45 mx90 (by decide) rfl rfl ?_
      refine xs_lload d90_47 rfl ?_
      refine xs_lload_n d90_49 rfl ?_
      refine xs_lcmp d90_50 ?_
      rcases lk_if hf with ⟨hc14, hf⟩ | ⟨hc14, hf⟩
      · refine xs_if_le (tgt := 60) d90_51 (by decide) (fun _ => ?_) (fun hn => absurd hc14 hn)
        refine xs_pick [0, 1, 2, 3, 4] rfl ?_
        exact f_Walk_chosenOf_b60_ok hD hf K1 K0
      · refine xs_if_le (tgt := 60) d90_51 (by decide) (fun hp => absurd hp hc14) (fun _ => ?_)
        refine xs_lload d90_54 rfl ?_
        refine xe_lstore_n (v := q13.1) (ls2 := [(0, xr 10 (some 0)), (1, xi v1), (2, xi v2), (3, xl q13.1), (5, xi v5), (6, xl q13.1)]) d90_56 mx90 (by decide) rfl rfl ?_
        refine xs_iload d90_57 rfl ?_
        refine xe_istore_n (v := v5) (ls2 := [(0, xr 10 (some 0)), (1, xi v1), (2, xi v5), (3, xl q13.1), (5, xi v5), (6, xl q13.1)]) d90_59 mx90 (by decide) rfl rfl ?_
        refine xs_pick [0, 1, 2, 3, 4] rfl ?_
        exact f_Walk_chosenOf_b60_ok hD hf K1 K0
noncomputable def f_Walk_chosenOf_l12 (v1 : Int32) (v2 : Int32) (v3 : Int64) (v5 : Int32) (h : xH) : Option (Int32 × xH) :=
  whl (fun s => f_Walk_chosenOf_s12 v1 s.1 s.2.1 s.2.2.1 s.2.2.2) (v2, v3, v5, h)
theorem f_Walk_chosenOf_l12_ok {g : xG} {l : Launch} {d : Nat} {v1 : Int32} {v2 : Int32} {v3 : Int64} {v5 : Int32} {h : xH} {o : (Int32 × xH)} {R : Option xV} {H' : xH} (hD : 2 ≤ d) (hf : f_Walk_chosenOf_l12 v1 v2 v3 v5 h = some o) (K0 : ∀ (a : Int32) (h1 : xH), o = (a, h1) → R = some (xi a) ∧ H' = h1) : xEv g l d 90 12 [(0, xr 10 (some 0)), (1, xi v1), (2, xi v2), (3, xl v3), (5, xi v5)] [] h R H' := by
  obtain ⟨n, hn⟩ := whl_iff.mp hf
  clear hf
  induction n generalizing v2 v3 v5 h with
  | zero => cases hn
  | succ n ih =>
    obtain ⟨o2, hs, hn⟩ := lk_b (show (f_Walk_chosenOf_s12 v1 v2 v3 v5 h).bind (fun o => Sum.elim (itn _ n) some o) = some o from hn)
    exact f_Walk_chosenOf_s12_ok hD hs (fun u0 u1 u2 u3 e => ih (by rw [e] at hn; exact hn)) (fun u0 u1 e => K0 u0 u1 (by rw [e] at hn; exact (Option.some.inj hn).symm))
noncomputable def f_Walk_chosenOf_e (v1 : Int32) (h : xH) : Option (Int32 × xH) :=
  (f_Walk_tellAll v1 h).bind fun h3 =>
  f_Walk_chosenOf_l12 v1 (-1 : Int32) (0 : Int64) (0 : Int32) h3
set_option maxHeartbeats 4000000 in
set_option maxRecDepth 100000 in
theorem f_Walk_chosenOf_e_ok {g : xG} {l : Launch} {d : Nat} {v1 : Int32} {h : xH} {o : (Int32 × xH)} {R : Option xV} {H' : xH} (hD : 2 ≤ d) (hf : f_Walk_chosenOf_e v1 h = some o) (K0 : ∀ (a : Int32) (h1 : xH), o = (a, h1) → R = some (xi a) ∧ H' = h1) : xEv g l d 90 0 [(0, xr 10 (some 0)), (1, xi v1)] [] h R H' := by
  unfold f_Walk_chosenOf_e at hf
  refine xs_aload_n d90_0 rfl ?_
  refine xs_iload_n d90_1 rfl ?_
  obtain ⟨h3, hc2, hf⟩ := lk_b hf
  refine xe_callv0 (as := [xi v1]) (st := []) (h2 := h3) (d2 := d - 1) d90_2 ky90 ml78 st91 (by decide) cn91 rfl na91 (Nat.le_of_ble_eq_true rfl) (by omega) (f_Walk_tellAll_ok (by omega) hc2) ?_
  refine xs_iconst (v := -1) d90_5 (by decide) ?_
  refine xe_istore_n (v := (-1 : Int32)) (ls2 := [(0, xr 10 (some 0)), (1, xi v1), (2, xi (-1 : Int32))]) d90_6 mx90 (by decide) rfl rfl ?_
  refine xs_lconst (v := 0) d90_7 (by decide) ?_
  refine xe_lstore_n (v := (0 : Int64)) (ls2 := [(0, xr 10 (some 0)), (1, xi v1), (2, xi (-1 : Int32)), (3, xl (0 : Int64))]) d90_8 mx90 (by decide) rfl rfl ?_
  refine xs_iconst (v := 0) d90_9 (by decide) ?_
  refine xe_istore (v := (0 : Int32)) (ls2 := [(0, xr 10 (some 0)), (1, xi v1), (2, xi (-1 : Int32)), (3, xl (0 : Int64)), (5, xi (0 : Int32))]) d90_10 mx90 (by decide) rfl rfl ?_
  exact f_Walk_chosenOf_l12_ok hD hf K0
noncomputable def f_Walk_chosenOf (v1 : Int32) (h : xH) : Option (Int32 × xH) := f_Walk_chosenOf_e v1 h
theorem f_Walk_chosenOf_ok {g : xG} {l : Launch} {d : Nat} {v1 : Int32} {h : xH} {r : Int32} {h1 : xH} (hD : 2 ≤ d) (hf : f_Walk_chosenOf v1 h = some (r, h1)) : xC g l d 90 [xr 10 (some 0), xi v1] h (some (xi r)) h1 :=
  xC_of (by decide) (Nat.le_of_ble_eq_true rfl) (f_Walk_chosenOf_e_ok hD hf (fun _ _ e => by cases e; exact ⟨rfl, rfl⟩))
theorem d88_0 : decode (xcode 88) 0 = .ok (.aload_n 0, 1) := by decide +kernel
theorem d88_1 : decode (xcode 88) 1 = .ok (.getfield 12, 3) := by decide +kernel
theorem d88_4 : decode (xcode 88) 4 = .ok (.invokevirtual 66, 3) := by decide +kernel
theorem d88_7 : decode (xcode 88) 7 = .ok (.istore_n 1, 1) := by decide +kernel
theorem d88_8 : decode (xcode 88) 8 = .ok (.iload_n 1, 1) := by decide +kernel
theorem d88_9 : decode (xcode 88) 9 = .ok (.ifCond .ne 10, 3) := by decide +kernel
theorem d88_12 : decode (xcode 88) 12 = .ok (.aload_n 0, 1) := by decide +kernel
theorem d88_13 : decode (xcode 88) 13 = .ok (.iconst 1, 1) := by decide +kernel
theorem d88_14 : decode (xcode 88) 14 = .ok (.putfield 35, 3) := by decide +kernel
theorem d88_17 : decode (xcode 88) 17 = .ok (.iconst (-1), 1) := by decide +kernel
theorem d88_18 : decode (xcode 88) 18 = .ok (.ireturn, 1) := by decide +kernel
theorem d88_19 : decode (xcode 88) 19 = .ok (.aload_n 0, 1) := by decide +kernel
theorem d88_20 : decode (xcode 88) 20 = .ok (.getfield 31, 3) := by decide +kernel
theorem d88_23 : decode (xcode 88) 23 = .ok (.ifnonnull 8, 3) := by decide +kernel
theorem d88_26 : decode (xcode 88) 26 = .ok (.iload_n 1, 1) := by decide +kernel
theorem d88_27 : decode (xcode 88) 27 = .ok (.invokestatic 69, 3) := by decide +kernel
theorem d88_30 : decode (xcode 88) 30 = .ok (.ireturn, 1) := by decide +kernel
theorem d88_31 : decode (xcode 88) 31 = .ok (.aload_n 0, 1) := by decide +kernel
theorem d88_32 : decode (xcode 88) 32 = .ok (.iload_n 1, 1) := by decide +kernel
theorem d88_33 : decode (xcode 88) 33 = .ok (.invokevirtual 73, 3) := by decide +kernel
theorem d88_36 : decode (xcode 88) 36 = .ok (.istore_n 2, 1) := by decide +kernel
theorem d88_37 : decode (xcode 88) 37 = .ok (.aload_n 0, 1) := by decide +kernel
theorem d88_38 : decode (xcode 88) 38 = .ok (.iload_n 2, 1) := by decide +kernel
theorem d88_39 : decode (xcode 88) 39 = .ok (.iconst (-1), 1) := by decide +kernel
theorem d88_40 : decode (xcode 88) 40 = .ok (.if_icmp .ne 17, 3) := by decide +kernel
theorem d88_43 : decode (xcode 88) 43 = .ok (.aload_n 0, 1) := by decide +kernel
theorem d88_44 : decode (xcode 88) 44 = .ok (.getfield 31, 3) := by decide +kernel
theorem d88_47 : decode (xcode 88) 47 = .ok (.getfield 76, 3) := by decide +kernel
theorem d88_50 : decode (xcode 88) 50 = .ok (.ifCond .ne 7, 3) := by decide +kernel
theorem d88_53 : decode (xcode 88) 53 = .ok (.iconst 1, 1) := by decide +kernel
theorem d88_54 : decode (xcode 88) 54 = .ok (.goto 4, 3) := by decide +kernel
theorem d88_57 : decode (xcode 88) 57 = .ok (.iconst 0, 1) := by decide +kernel
theorem d88_58 : decode (xcode 88) 58 = .ok (.putfield 35, 3) := by decide +kernel
theorem d88_61 : decode (xcode 88) 61 = .ok (.iload_n 2, 1) := by decide +kernel
theorem d88_62 : decode (xcode 88) 62 = .ok (.ireturn, 1) := by decide +kernel
noncomputable def f_Walk_chosenNow_b58 (v2 : Int32) (t0 : Int32) (h : xH) : Option (Int32 × xH) :=
  if t0 = 0 ∨ t0 = 1 then (
  xlet (xsI h 10 1 0 t0) fun h15 =>
  some ((v2, h15))) else none
set_option maxHeartbeats 4000000 in
set_option maxRecDepth 100000 in
theorem f_Walk_chosenNow_b58_ok {g : xG} {l : Launch} {d : Nat} {v2 : Int32} {t0 : Int32} {h : xH} {o : (Int32 × xH)} {R : Option xV} {H' : xH} (hD : 3 ≤ d) (hf : f_Walk_chosenNow_b58 v2 t0 h = some o) (K0 : ∀ (a : Int32) (h1 : xH), o = (a, h1) → R = some (xi a) ∧ H' = h1) : xEv g l d 88 58 [(2, xi v2)] [xi t0, xr 10 (some 0)] h R H' := by
  unfold f_Walk_chosenNow_b58 at hf
  obtain ⟨hz16, hf⟩ := lk_g hf
  obtain ⟨h15, eh15, hf⟩ := lk_let hf
  refine xe_putz d88_58 ky88 fl113 fk10_1 ft10_1 hz16 eh15 ?_
  refine xs_iload_n d88_61 rfl ?_
  obtain ⟨eR, eH⟩ := K0 _ _ (Option.some.inj hf).symm
  subst eR; subst eH
  exact xs_iret d88_62 rt88
noncomputable def f_Walk_chosenNow_b57 (v2 : Int32) (h : xH) : Option (Int32 × xH) :=
  f_Walk_chosenNow_b58 v2 (0 : Int32) h
set_option maxHeartbeats 4000000 in
set_option maxRecDepth 100000 in
theorem f_Walk_chosenNow_b57_ok {g : xG} {l : Launch} {d : Nat} {v2 : Int32} {h : xH} {o : (Int32 × xH)} {R : Option xV} {H' : xH} (hD : 3 ≤ d) (hf : f_Walk_chosenNow_b57 v2 h = some o) (K0 : ∀ (a : Int32) (h1 : xH), o = (a, h1) → R = some (xi a) ∧ H' = h1) : xEv g l d 88 57 [(2, xi v2)] [xr 10 (some 0)] h R H' := by
  unfold f_Walk_chosenNow_b57 at hf
  refine xs_iconst (v := 0) d88_57 (by decide) ?_
  exact f_Walk_chosenNow_b58_ok hD hf K0
noncomputable def f_Walk_chosenNow_e (h : xH) : Option (Int32 × xH) :=
  (f_State_looseBits 25 h).bind fun r1 =>
  if r1 = (0 : Int32) then (
  xlet (xsI h 10 1 0 (1 : Int32)) fun h4 =>
  some (((-1 : Int32), h4))) else (
  if h.2.2.1 10 4 0 = none then (
  (f_Walk_leastOf r1 h).bind fun r7 =>
  some ((r7, h))) else (
  (f_Walk_chosenOf r1 h).bind fun q11 =>
  if q11.1 = (-1 : Int32) then (
  (q11.2.2.2.1 10 4 0).bind fun i913 =>
  if (q11.2.1 2 3 i913) = (0 : Int32) then (
  f_Walk_chosenNow_b58 q11.1 (1 : Int32) q11.2) else (
  f_Walk_chosenNow_b57 q11.1 q11.2)) else (
  f_Walk_chosenNow_b57 q11.1 q11.2)))
set_option maxHeartbeats 4000000 in
set_option maxRecDepth 100000 in
theorem f_Walk_chosenNow_e_ok {g : xG} {l : Launch} {d : Nat} {h : xH} {o : (Int32 × xH)} {R : Option xV} {H' : xH} (hD : 3 ≤ d) (hf : f_Walk_chosenNow_e h = some o) (K0 : ∀ (a : Int32) (h1 : xH), o = (a, h1) → R = some (xi a) ∧ H' = h1) : xEv g l d 88 0 [(0, xr 10 (some 0))] [] h R H' := by
  unfold f_Walk_chosenNow_e at hf
  refine xs_aload_n d88_0 rfl ?_
  refine xe_getc (j := 25) d88_1 ky88 fl111 fk10_0 rfl ?_
  obtain ⟨r1, hc2, hf⟩ := lk_b hf
  refine xe_callv1 (as := []) (st := []) (h2 := h) (d2 := d - 1) d88_4 ky88 ml73 st51 (by decide) cn51 rfl na51 (Nat.le_of_ble_eq_true rfl) (by omega) (f_State_looseBits_ok (by omega) hc2) ?_
  refine xe_istore_n (v := r1) (ls2 := [(0, xr 10 (some 0)), (1, xi r1)]) d88_7 mx88 (by decide) rfl rfl ?_
  refine xs_iload_n d88_8 rfl ?_
  rcases lk_if hf with ⟨hc3, hf⟩ | ⟨hc3, hf⟩
  · refine xs_if_ne (tgt := 19) d88_9 (by decide) (fun _ => ?_) (fun hn => absurd hc3 hn)
    refine xs_aload_n d88_12 rfl ?_
    refine xs_iconst (v := 1) d88_13 (by decide) ?_
    obtain ⟨h4, eh4, hf⟩ := lk_let hf
    refine xe_putz d88_14 ky88 fl113 fk10_1 ft10_1 (Or.inr rfl) eh4 ?_
    refine xs_iconst (v := -1) d88_17 (by decide) ?_
    obtain ⟨eR, eH⟩ := K0 _ _ (Option.some.inj hf).symm
    subst eR; subst eH
    exact xs_iret d88_18 rt88
  · refine xs_if_ne (tgt := 19) d88_9 (by decide) (fun hp => absurd hp hc3) (fun _ => ?_)
    refine xs_aload_n d88_19 rfl ?_
    refine xe_getd d88_20 ky88 fl117 fk10_4 ?_
    rcases lk_if hf with ⟨hc6, hf⟩ | ⟨hc6, hf⟩
    · refine xs_nonnull (tgt := 31) d88_23 (by decide) (fun i e => by rw [hc6] at e; cases e) (fun _ => ?_)
      refine xs_iload_n d88_26 rfl ?_
      obtain ⟨r7, hc8, hf⟩ := lk_b hf
      refine xe_calls1 (as := [xi r1]) (st := []) (h2 := h) (d2 := d - 1) d88_27 ky88 ml75 st89 rfl na89 (Nat.le_of_ble_eq_true rfl) (by omega) (f_Walk_leastOf_ok (by omega) hc8) ?_
      obtain ⟨eR, eH⟩ := K0 _ _ (Option.some.inj hf).symm
      subst eR; subst eH
      exact xs_iret d88_30 rt88
    · refine xs_nonnull (tgt := 31) d88_23 (by decide) (fun _ _ => ?_) (fun e => absurd e hc6)
      refine xs_aload_n d88_31 rfl ?_
      refine xs_iload_n d88_32 rfl ?_
      obtain ⟨q11, hc10, hf⟩ := lk_b hf
      refine xe_callv1 (as := [xi r1]) (st := []) (h2 := q11.2) (d2 := d - 1) d88_33 ky88 ml77 st90 (by decide) cn90 rfl na90 (Nat.le_of_ble_eq_true rfl) (by omega) (f_Walk_chosenOf_ok (by omega) hc10) ?_
      refine xe_istore_n (v := q11.1) (ls2 := [(0, xr 10 (some 0)), (1, xi r1), (2, xi q11.1)]) d88_36 mx88 (by decide) rfl rfl ?_
      refine xs_aload_n d88_37 rfl ?_
      refine xs_iload_n d88_38 rfl ?_
      refine xs_iconst (v := -1) d88_39 (by decide) ?_
      rcases lk_if hf with ⟨hc12, hf⟩ | ⟨hc12, hf⟩
      · refine xs_icmp_ne (tgt := 57) d88_40 (by decide) (fun _ => ?_) (fun hn => absurd hc12 hn)
        refine xs_aload_n d88_43 rfl ?_
        refine xe_getd d88_44 ky88 fl117 fk10_4 ?_
        obtain ⟨i913, ei913, hf⟩ := lk_b hf
        rw [ei913]
        refine xe_geti d88_47 ky88 fl66 fk2_3 ?_
        rcases lk_if hf with ⟨hc14, hf⟩ | ⟨hc14, hf⟩
        · refine xs_if_ne (tgt := 57) d88_50 (by decide) (fun _ => ?_) (fun hn => absurd hc14 hn)
          refine xs_iconst (v := 1) d88_53 (by decide) ?_
          refine xs_goto (tgt := 58) d88_54 (by decide) ?_
          refine xs_pick [2] rfl ?_
          exact f_Walk_chosenNow_b58_ok hD hf K0
        · refine xs_if_ne (tgt := 57) d88_50 (by decide) (fun hp => absurd hp hc14) (fun _ => ?_)
          refine xs_pick [2] rfl ?_
          exact f_Walk_chosenNow_b57_ok hD hf K0
      · refine xs_icmp_ne (tgt := 57) d88_40 (by decide) (fun hp => absurd hp hc12) (fun _ => ?_)
        refine xs_pick [2] rfl ?_
        exact f_Walk_chosenNow_b57_ok hD hf K0
noncomputable def f_Walk_chosenNow (h : xH) : Option (Int32 × xH) := f_Walk_chosenNow_e h
theorem f_Walk_chosenNow_ok {g : xG} {l : Launch} {d : Nat} {h : xH} {r : Int32} {h1 : xH} (hD : 3 ≤ d) (hf : f_Walk_chosenNow h = some (r, h1)) : xC g l d 88 [xr 10 (some 0)] h (some (xi r)) h1 :=
  xC_of (by decide) (Nat.le_of_ble_eq_true rfl) (f_Walk_chosenNow_e_ok hD hf (fun _ _ e => by cases e; exact ⟨rfl, rfl⟩))
theorem d87_0 : decode (xcode 87) 0 = .ok (.aload_n 0, 1) := by decide +kernel
theorem d87_1 : decode (xcode 87) 1 = .ok (.getfield 35, 3) := by decide +kernel
theorem d87_4 : decode (xcode 87) 4 = .ok (.ifCond .eq 7, 3) := by decide +kernel
theorem d87_7 : decode (xcode 87) 7 = .ok (.iconst (-1), 1) := by decide +kernel
theorem d87_8 : decode (xcode 87) 8 = .ok (.goto 7, 3) := by decide +kernel
theorem d87_11 : decode (xcode 87) 11 = .ok (.aload_n 0, 1) := by decide +kernel
theorem d87_12 : decode (xcode 87) 12 = .ok (.invokevirtual 47, 3) := by decide +kernel
theorem d87_15 : decode (xcode 87) 15 = .ok (.istore_n 1, 1) := by decide +kernel
theorem d87_16 : decode (xcode 87) 16 = .ok (.iload_n 1, 1) := by decide +kernel
theorem d87_17 : decode (xcode 87) 17 = .ok (.iconst (-1), 1) := by decide +kernel
theorem d87_18 : decode (xcode 87) 18 = .ok (.if_icmp .ne 14, 3) := by decide +kernel
theorem d87_21 : decode (xcode 87) 21 = .ok (.aload_n 0, 1) := by decide +kernel
theorem d87_22 : decode (xcode 87) 22 = .ok (.getfield 12, 3) := by decide +kernel
theorem d87_25 : decode (xcode 87) 25 = .ok (.iconst 1, 1) := by decide +kernel
theorem d87_26 : decode (xcode 87) 26 = .ok (.invokevirtual 51, 3) := by decide +kernel
theorem d87_29 : decode (xcode 87) 29 = .ok (.goto 18, 3) := by decide +kernel
theorem d87_32 : decode (xcode 87) 32 = .ok (.aload_n 0, 1) := by decide +kernel
theorem d87_33 : decode (xcode 87) 33 = .ok (.getfield 12, 3) := by decide +kernel
theorem d87_36 : decode (xcode 87) 36 = .ok (.iload_n 1, 1) := by decide +kernel
theorem d87_37 : decode (xcode 87) 37 = .ok (.aload_n 0, 1) := by decide +kernel
theorem d87_38 : decode (xcode 87) 38 = .ok (.getfield 27, 3) := by decide +kernel
theorem d87_41 : decode (xcode 87) 41 = .ok (.getfield 55, 3) := by decide +kernel
theorem d87_44 : decode (xcode 87) 44 = .ok (.invokevirtual 59, 3) := by decide +kernel
theorem d87_47 : decode (xcode 87) 47 = .ok (.aload_n 0, 1) := by decide +kernel
theorem d87_48 : decode (xcode 87) 48 = .ok (.getfield 12, 3) := by decide +kernel
theorem d87_51 : decode (xcode 87) 51 = .ok (.dup, 1) := by decide +kernel
theorem d87_52 : decode (xcode 87) 52 = .ok (.getfield 63, 3) := by decide +kernel
theorem d87_55 : decode (xcode 87) 55 = .ok (.iconst 1, 1) := by decide +kernel
theorem d87_56 : decode (xcode 87) 56 = .ok (.iadd, 1) := by decide +kernel
theorem d87_57 : decode (xcode 87) 57 = .ok (.putfield 63, 3) := by decide +kernel
theorem d87_60 : decode (xcode 87) 60 = .ok (.iload_n 1, 1) := by decide +kernel
theorem d87_61 : decode (xcode 87) 61 = .ok (.ireturn, 1) := by decide +kernel
noncomputable def f_Walk_goOn_b47 (v1 : Int32) (h : xH) : Option (Int32 × xH) :=
  xlet (xsI h 6 1 25 ((h.1 6 1 25) + (1 : Int32))) fun h9 =>
  some ((v1, h9))
set_option maxHeartbeats 4000000 in
set_option maxRecDepth 100000 in
theorem f_Walk_goOn_b47_ok {g : xG} {l : Launch} {d : Nat} {v1 : Int32} {h : xH} {o : (Int32 × xH)} {R : Option xV} {H' : xH} (hD : 4 ≤ d) (hf : f_Walk_goOn_b47 v1 h = some o) (K0 : ∀ (a : Int32) (h1 : xH), o = (a, h1) → R = some (xi a) ∧ H' = h1) : xEv g l d 87 47 [(0, xr 10 (some 0)), (1, xi v1)] [] h R H' := by
  unfold f_Walk_goOn_b47 at hf
  refine xs_aload_n d87_47 rfl ?_
  refine xe_getc (j := 25) d87_48 ky87 fl111 fk10_0 rfl ?_
  refine xs_dup d87_51 rfl ?_
  refine xe_geti d87_52 ky87 fl72 fk6_1 ?_
  refine xs_iconst (v := 1) d87_55 (by decide) ?_
  refine xs_iadd d87_56 ?_
  obtain ⟨h9, eh9, hf⟩ := lk_let hf
  refine xe_puti d87_57 ky87 fl72 fk6_1 ft6_1 eh9 ?_
  refine xs_iload_n d87_60 rfl ?_
  obtain ⟨eR, eH⟩ := K0 _ _ (Option.some.inj hf).symm
  subst eR; subst eH
  exact xs_iret d87_61 rt87
noncomputable def f_Walk_goOn_b15 (t0 : Int32) (h : xH) : Option (Int32 × xH) :=
  if t0 = (-1 : Int32) then (
  (f_State_pass 25 (1 : Int32) h).bind fun h8 =>
  f_Walk_goOn_b47 t0 h8) else (
  (h.2.2.1 10 3 0).bind fun i910 =>
  (f_State_lift 25 t0 (h.1 8 1 i910) h).bind fun h13 =>
  f_Walk_goOn_b47 t0 h13)
set_option maxHeartbeats 4000000 in
set_option maxRecDepth 100000 in
theorem f_Walk_goOn_b15_ok {g : xG} {l : Launch} {d : Nat} {t0 : Int32} {h : xH} {o : (Int32 × xH)} {R : Option xV} {H' : xH} (hD : 4 ≤ d) (hf : f_Walk_goOn_b15 t0 h = some o) (K0 : ∀ (a : Int32) (h1 : xH), o = (a, h1) → R = some (xi a) ∧ H' = h1) : xEv g l d 87 15 [(0, xr 10 (some 0))] [xi t0] h R H' := by
  unfold f_Walk_goOn_b15 at hf
  refine xe_istore_n (v := t0) (ls2 := [(0, xr 10 (some 0)), (1, xi t0)]) d87_15 mx87 (by decide) rfl rfl ?_
  refine xs_iload_n d87_16 rfl ?_
  refine xs_iconst (v := -1) d87_17 (by decide) ?_
  rcases lk_if hf with ⟨hc5, hf⟩ | ⟨hc5, hf⟩
  · refine xs_icmp_ne (tgt := 32) d87_18 (by decide) (fun _ => ?_) (fun hn => absurd hc5 hn)
    refine xs_aload_n d87_21 rfl ?_
    refine xe_getc (j := 25) d87_22 ky87 fl111 fk10_0 rfl ?_
    refine xs_iconst (v := 1) d87_25 (by decide) ?_
    obtain ⟨h8, hc7, hf⟩ := lk_b hf
    refine xe_callv0 (as := [xi (1 : Int32)]) (st := []) (h2 := h8) (d2 := d - 1) d87_26 ky87 ml87 st54 (by decide) cn54 rfl na54 (Nat.le_of_ble_eq_true rfl) (by omega) (f_State_pass_ok (by omega) hc7) ?_
    refine xs_goto (tgt := 47) d87_29 (by decide) ?_
    exact f_Walk_goOn_b47_ok hD hf K0
  · refine xs_icmp_ne (tgt := 32) d87_18 (by decide) (fun hp => absurd hp hc5) (fun _ => ?_)
    refine xs_aload_n d87_32 rfl ?_
    refine xe_getc (j := 25) d87_33 ky87 fl111 fk10_0 rfl ?_
    refine xs_iload_n d87_36 rfl ?_
    refine xs_aload_n d87_37 rfl ?_
    refine xe_getd d87_38 ky87 fl116 fk10_3 ?_
    obtain ⟨i910, ei910, hf⟩ := lk_b hf
    rw [ei910]
    refine xe_geti d87_41 ky87 fl22 fk8_1 ?_
    obtain ⟨h13, hc12, hf⟩ := lk_b hf
    refine xe_callv0 (as := [xi t0, xi (h.1 8 1 i910)]) (st := []) (h2 := h13) (d2 := d - 1) d87_44 ky87 ml89 st55 (by decide) cn55 rfl na55 (Nat.le_of_ble_eq_true rfl) (by omega) (f_State_lift_ok (by omega) hc12) ?_
    exact f_Walk_goOn_b47_ok hD hf K0
noncomputable def f_Walk_goOn_e (h : xH) : Option (Int32 × xH) :=
  if (h.1 10 1 0) = (0 : Int32) then (
  (f_Walk_chosenNow h).bind fun q4 =>
  f_Walk_goOn_b15 q4.1 q4.2) else (
  f_Walk_goOn_b15 (-1 : Int32) h)
set_option maxHeartbeats 4000000 in
set_option maxRecDepth 100000 in
theorem f_Walk_goOn_e_ok {g : xG} {l : Launch} {d : Nat} {h : xH} {o : (Int32 × xH)} {R : Option xV} {H' : xH} (hD : 4 ≤ d) (hf : f_Walk_goOn_e h = some o) (K0 : ∀ (a : Int32) (h1 : xH), o = (a, h1) → R = some (xi a) ∧ H' = h1) : xEv g l d 87 0 [(0, xr 10 (some 0))] [] h R H' := by
  unfold f_Walk_goOn_e at hf
  refine xs_aload_n d87_0 rfl ?_
  refine xe_geti d87_1 ky87 fl113 fk10_1 ?_
  rcases lk_if hf with ⟨hc1, hf⟩ | ⟨hc1, hf⟩
  · refine xs_if_eq (tgt := 11) d87_4 (by decide) (fun _ => ?_) (fun hn => absurd hc1 hn)
    refine xs_aload_n d87_11 rfl ?_
    obtain ⟨q4, hc3, hf⟩ := lk_b hf
    refine xe_callv1 (as := []) (st := []) (h2 := q4.2) (d2 := d - 1) d87_12 ky87 ml72 st88 (by decide) cn88 rfl na88 (Nat.le_of_ble_eq_true rfl) (by omega) (f_Walk_chosenNow_ok (by omega) hc3) ?_
    exact f_Walk_goOn_b15_ok hD hf K0
  · refine xs_if_eq (tgt := 11) d87_4 (by decide) (fun hp => absurd hp hc1) (fun _ => ?_)
    refine xs_iconst (v := -1) d87_7 (by decide) ?_
    refine xs_goto (tgt := 15) d87_8 (by decide) ?_
    exact f_Walk_goOn_b15_ok hD hf K0
noncomputable def f_Walk_goOn (h : xH) : Option (Int32 × xH) := f_Walk_goOn_e h
theorem f_Walk_goOn_ok {g : xG} {l : Launch} {d : Nat} {h : xH} {r : Int32} {h1 : xH} (hD : 4 ≤ d) (hf : f_Walk_goOn h = some (r, h1)) : xC g l d 87 [xr 10 (some 0)] h (some (xi r)) h1 :=
  xC_of (by decide) (Nat.le_of_ble_eq_true rfl) (f_Walk_goOn_e_ok hD hf (fun _ _ e => by cases e; exact ⟨rfl, rfl⟩))
theorem d93_0 : decode (xcode 93) 0 = .ok (.iload_n 1, 1) := by decide +kernel
theorem d93_1 : decode (xcode 93) 1 = .ok (.istore_n 2, 1) := by decide +kernel
theorem d93_2 : decode (xcode 93) 2 = .ok (.iconst 0, 1) := by decide +kernel
theorem d93_3 : decode (xcode 93) 3 = .ok (.istore_n 3, 1) := by decide +kernel
theorem d93_4 : decode (xcode 93) 4 = .ok (.iload_n 3, 1) := by decide +kernel
theorem d93_5 : decode (xcode 93) 5 = .ok (.bipush 8, 2) := by decide +kernel
theorem d93_7 : decode (xcode 93) 7 = .ok (.if_icmp .ge 96, 3) := by decide +kernel
theorem d93_10 : decode (xcode 93) 10 = .ok (.aload_n 0, 1) := by decide +kernel
theorem d93_11 : decode (xcode 93) 11 = .ok (.getfield 12, 3) := by decide +kernel
theorem d93_14 : decode (xcode 93) 14 = .ok (.invokevirtual 66, 3) := by decide +kernel
theorem d93_17 : decode (xcode 93) 17 = .ok (.istore 4, 2) := by decide +kernel
theorem d93_19 : decode (xcode 93) 19 = .ok (.iload 4, 2) := by decide +kernel
theorem d93_21 : decode (xcode 93) 21 = .ok (.invokestatic 97, 3) := by decide +kernel
theorem d93_24 : decode (xcode 93) 24 = .ok (.istore 5, 2) := by decide +kernel
theorem d93_26 : decode (xcode 93) 26 = .ok (.iload 5, 2) := by decide +kernel
theorem d93_28 : decode (xcode 93) 28 = .ok (.ifCond .ne 5, 3) := by decide +kernel
theorem d93_31 : decode (xcode 93) 31 = .ok (.iload_n 2, 1) := by decide +kernel
theorem d93_32 : decode (xcode 93) 32 = .ok (.ireturn, 1) := by decide +kernel
theorem d93_33 : decode (xcode 93) 33 = .ok (.iload_n 2, 1) := by decide +kernel
theorem d93_34 : decode (xcode 93) 34 = .ok (.i2l, 1) := by decide +kernel
theorem d93_35 : decode (xcode 93) 35 = .ok (.ldc2_w 128, 3) := by decide +kernel
theorem d93_38 : decode (xcode 93) 38 = .ok (.lmul, 1) := by decide +kernel
theorem d93_39 : decode (xcode 93) 39 = .ok (.ldc2_w 130, 3) := by decide +kernel
theorem d93_42 : decode (xcode 93) 42 = .ok (.ladd, 1) := by decide +kernel
theorem d93_43 : decode (xcode 93) 43 = .ok (.ldc2_w 132, 3) := by decide +kernel
theorem d93_46 : decode (xcode 93) 46 = .ok (.land, 1) := by decide +kernel
theorem d93_47 : decode (xcode 93) 47 = .ok (.l2i, 1) := by decide +kernel
theorem d93_48 : decode (xcode 93) 48 = .ok (.istore_n 2, 1) := by decide +kernel
theorem d93_49 : decode (xcode 93) 49 = .ok (.iload_n 2, 1) := by decide +kernel
theorem d93_50 : decode (xcode 93) 50 = .ok (.ldc 134, 2) := by decide +kernel
theorem d93_52 : decode (xcode 93) 52 = .ok (.idiv, 1) := by decide +kernel
theorem d93_53 : decode (xcode 93) 53 = .ok (.iload 5, 2) := by decide +kernel
theorem d93_55 : decode (xcode 93) 55 = .ok (.irem, 1) := by decide +kernel
theorem d93_56 : decode (xcode 93) 56 = .ok (.istore 6, 2) := by decide +kernel
theorem d93_58 : decode (xcode 93) 58 = .ok (.iload 6, 2) := by decide +kernel
theorem d93_60 : decode (xcode 93) 60 = .ok (.ifCond .le 18, 3) := by decide +kernel
theorem d93_63 : decode (xcode 93) 63 = .ok (.iload 4, 2) := by decide +kernel
theorem d93_65 : decode (xcode 93) 65 = .ok (.iload 4, 2) := by decide +kernel
theorem d93_67 : decode (xcode 93) 67 = .ok (.iconst 1, 1) := by decide +kernel
theorem d93_68 : decode (xcode 93) 68 = .ok (.isub, 1) := by decide +kernel
theorem d93_69 : decode (xcode 93) 69 = .ok (.iand, 1) := by decide +kernel
theorem d93_70 : decode (xcode 93) 70 = .ok (.istore 4, 2) := by decide +kernel
theorem d93_72 : decode (xcode 93) 72 = .ok (.iinc 6 (-1), 3) := by decide +kernel
theorem d93_75 : decode (xcode 93) 75 = .ok (.goto (-17), 3) := by decide +kernel
theorem d93_78 : decode (xcode 93) 78 = .ok (.aload_n 0, 1) := by decide +kernel
theorem d93_79 : decode (xcode 93) 79 = .ok (.getfield 12, 3) := by decide +kernel
theorem d93_82 : decode (xcode 93) 82 = .ok (.iload 4, 2) := by decide +kernel
theorem d93_84 : decode (xcode 93) 84 = .ok (.invokestatic 69, 3) := by decide +kernel
theorem d93_87 : decode (xcode 93) 87 = .ok (.aload_n 0, 1) := by decide +kernel
theorem d93_88 : decode (xcode 93) 88 = .ok (.getfield 27, 3) := by decide +kernel
theorem d93_91 : decode (xcode 93) 91 = .ok (.getfield 55, 3) := by decide +kernel
theorem d93_94 : decode (xcode 93) 94 = .ok (.invokevirtual 59, 3) := by decide +kernel
theorem d93_97 : decode (xcode 93) 97 = .ok (.iinc 3 1, 3) := by decide +kernel
theorem d93_100 : decode (xcode 93) 100 = .ok (.goto (-96), 3) := by decide +kernel
theorem d93_103 : decode (xcode 93) 103 = .ok (.iload_n 2, 1) := by decide +kernel
theorem d93_104 : decode (xcode 93) 104 = .ok (.ireturn, 1) := by decide +kernel
noncomputable def f_Walk_goByDraws_b78 (v2 : Int32) (v3 : Int32) (v4 : Int32) (h : xH) : Option ((Int32 × Int32 × xH) ⊕ (Int32 × xH)) :=
  (f_Walk_leastOf v4 h).bind fun r11 =>
  (h.2.2.1 10 3 0).bind fun i913 =>
  (f_State_lift 25 r11 (h.1 8 1 i913) h).bind fun h16 =>
  xlet (v3 + (1 : Int32)) fun v3_17 =>
  some (Sum.inl (v2, v3_17, h16))
set_option maxHeartbeats 4000000 in
set_option maxRecDepth 100000 in
theorem f_Walk_goByDraws_b78_ok {g : xG} {l : Launch} {d : Nat} {v2 : Int32} {v3 : Int32} {v4 : Int32} {h : xH} {o : ((Int32 × Int32 × xH) ⊕ (Int32 × xH))} {R : Option xV} {H' : xH} (hD : 3 ≤ d) (hf : f_Walk_goByDraws_b78 v2 v3 v4 h = some o) (K1 : ∀ (w2 : Int32) (w3 : Int32) (h1 : xH), o = Sum.inl (w2, w3, h1) → xEv g l d 93 4 [(0, xr 10 (some 0)), (2, xi w2), (3, xi w3)] [] h1 R H') (K0 : ∀ (a : Int32) (h1 : xH), o = Sum.inr ((a, h1)) → R = some (xi a) ∧ H' = h1) : xEv g l d 93 78 [(0, xr 10 (some 0)), (2, xi v2), (3, xi v3), (4, xi v4)] [] h R H' := by
  unfold f_Walk_goByDraws_b78 at hf
  refine xs_aload_n d93_78 rfl ?_
  refine xe_getc (j := 25) d93_79 ky93 fl111 fk10_0 rfl ?_
  refine xs_iload d93_82 rfl ?_
  obtain ⟨r11, hc12, hf⟩ := lk_b hf
  refine xe_calls1 (as := [xi v4]) (st := [xr 6 (some 25)]) (h2 := h) (d2 := d - 1) d93_84 ky93 ml75 st89 rfl na89 (Nat.le_of_ble_eq_true rfl) (by omega) (f_Walk_leastOf_ok (by omega) hc12) ?_
  refine xs_aload_n d93_87 rfl ?_
  refine xe_getd d93_88 ky93 fl116 fk10_3 ?_
  obtain ⟨i913, ei913, hf⟩ := lk_b hf
  rw [ei913]
  refine xe_geti d93_91 ky93 fl22 fk8_1 ?_
  obtain ⟨h16, hc15, hf⟩ := lk_b hf
  refine xe_callv0 (as := [xi r11, xi (h.1 8 1 i913)]) (st := []) (h2 := h16) (d2 := d - 1) d93_94 ky93 ml89 st55 (by decide) cn55 rfl na55 (Nat.le_of_ble_eq_true rfl) (by omega) (f_State_lift_ok (by omega) hc15) ?_
  obtain ⟨v3_17, ev3_17, hf⟩ := lk_let hf
  refine xe_iinc (v := v3_17) (b := 1) (ls2 := [(0, xr 10 (some 0)), (2, xi v2), (3, xi v3_17), (4, xi v4)]) d93_97 mx93 (by decide) rfl (by decide) ev3_17 rfl ?_
  refine xs_goto (tgt := 4) d93_100 (by decide) ?_
  refine xs_pick [0, 1, 2] rfl ?_
  exact K1 _ _ _ (Option.some.inj hf).symm
noncomputable def f_Walk_goByDraws_s58 (v2 : Int32) (v3 : Int32) (v4 : Int32) (v6 : Int32) (h : xH) : Option ((Int32 × Int32) ⊕ ((Int32 × Int32 × xH) ⊕ (Int32 × xH))) :=
  if v6 ≤ (0 : Int32) then (
  xup (f_Walk_goByDraws_b78 v2 v3 v4 h)) else (
  xlet (v4 &&& (v4 - (1 : Int32))) fun v4_18 =>
  xlet (v6 + (-1 : Int32)) fun v6_19 =>
  some (Sum.inl (v4_18, v6_19)))
set_option maxHeartbeats 4000000 in
set_option maxRecDepth 100000 in
theorem f_Walk_goByDraws_s58_ok {g : xG} {l : Launch} {d : Nat} {v2 : Int32} {v3 : Int32} {v4 : Int32} {v6 : Int32} {h : xH} {o : ((Int32 × Int32) ⊕ ((Int32 × Int32 × xH) ⊕ (Int32 × xH)))} {R : Option xV} {H' : xH} (hD : 3 ≤ d) (hf : f_Walk_goByDraws_s58 v2 v3 v4 v6 h = some o) (K1 : ∀ (w2 : Int32) (w3 : Int32) (h1 : xH), o = Sum.inr (Sum.inl (w2, w3, h1)) → xEv g l d 93 4 [(0, xr 10 (some 0)), (2, xi w2), (3, xi w3)] [] h1 R H') (K2 : ∀ (w4 : Int32) (w6 : Int32), o = Sum.inl (w4, w6) → xEv g l d 93 58 [(0, xr 10 (some 0)), (2, xi v2), (3, xi v3), (4, xi w4), (6, xi w6)] [] h R H') (K0 : ∀ (a : Int32) (h1 : xH), o = Sum.inr (Sum.inr ((a, h1))) → R = some (xi a) ∧ H' = h1) : xEv g l d 93 58 [(0, xr 10 (some 0)), (2, xi v2), (3, xi v3), (4, xi v4), (6, xi v6)] [] h R H' := by
  unfold f_Walk_goByDraws_s58 at hf
  refine xs_iload d93_58 rfl ?_
  rcases lk_if hf with ⟨hc10, hf⟩ | ⟨hc10, hf⟩
  · refine xs_if_le (tgt := 78) d93_60 (by decide) (fun _ => ?_) (fun hn => absurd hc10 hn)
    refine xs_pick [0, 1, 2, 3] rfl ?_
    obtain ⟨x0, hf, ex0⟩ := lk_up hf
    exact f_Walk_goByDraws_b78_ok hD hf (fun u0 u1 u2 e => K1 u0 u1 u2 (ex0.trans (congrArg Sum.inr e))) (fun u0 u1 e => K0 u0 u1 (ex0.trans (congrArg Sum.inr e)))
  · refine xs_if_le (tgt := 78) d93_60 (by decide) (fun hp => absurd hp hc10) (fun _ => ?_)
    refine xs_iload d93_63 rfl ?_
    refine xs_iload d93_65 rfl ?_
    refine xs_iconst (v := 1) d93_67 (by decide) ?_
    refine xs_isub d93_68 ?_
    refine xs_iand d93_69 ?_
    obtain ⟨v4_18, ev4_18, hf⟩ := lk_let hf
    refine xe_istore (v := v4_18) (ls2 := [(0, xr 10 (some 0)), (2, xi v2), (3, xi v3), (4, xi v4_18), (6, xi v6)]) d93_70 mx93 (by decide) ev4_18 rfl ?_
    obtain ⟨v6_19, ev6_19, hf⟩ := lk_let hf
    refine xe_iinc (v := v6_19) (b := -1) (ls2 := [(0, xr 10 (some 0)), (2, xi v2), (3, xi v3), (4, xi v4_18), (6, xi v6_19)]) d93_72 mx93 (by decide) rfl (by decide) ev6_19 rfl ?_
    refine xs_goto (tgt := 58) d93_75 (by decide) ?_
    exact K2 _ _ (Option.some.inj hf).symm
noncomputable def f_Walk_goByDraws_l58 (v2 : Int32) (v3 : Int32) (v4 : Int32) (v6 : Int32) (h : xH) : Option ((Int32 × Int32 × xH) ⊕ (Int32 × xH)) :=
  whl (fun s => f_Walk_goByDraws_s58 v2 v3 s.1 s.2 h) (v4, v6)
theorem f_Walk_goByDraws_l58_ok {g : xG} {l : Launch} {d : Nat} {v2 : Int32} {v3 : Int32} {v4 : Int32} {v6 : Int32} {h : xH} {o : ((Int32 × Int32 × xH) ⊕ (Int32 × xH))} {R : Option xV} {H' : xH} (hD : 3 ≤ d) (hf : f_Walk_goByDraws_l58 v2 v3 v4 v6 h = some o) (K1 : ∀ (w2 : Int32) (w3 : Int32) (h1 : xH), o = Sum.inl (w2, w3, h1) → xEv g l d 93 4 [(0, xr 10 (some 0)), (2, xi w2), (3, xi w3)] [] h1 R H') (K0 : ∀ (a : Int32) (h1 : xH), o = Sum.inr ((a, h1)) → R = some (xi a) ∧ H' = h1) : xEv g l d 93 58 [(0, xr 10 (some 0)), (2, xi v2), (3, xi v3), (4, xi v4), (6, xi v6)] [] h R H' := by
  obtain ⟨n, hn⟩ := whl_iff.mp hf
  clear hf
  induction n generalizing v4 v6 with
  | zero => cases hn
  | succ n ih =>
    obtain ⟨o2, hs, hn⟩ := lk_b (show (f_Walk_goByDraws_s58 v2 v3 v4 v6 h).bind (fun o => Sum.elim (itn _ n) some o) = some o from hn)
    exact f_Walk_goByDraws_s58_ok hD hs (fun u0 u1 u2 e => K1 u0 u1 u2 (by rw [e] at hn; exact (Option.some.inj hn).symm)) (fun u0 u1 e => ih (by rw [e] at hn; exact hn)) (fun u0 u1 e => K0 u0 u1 (by rw [e] at hn; exact (Option.some.inj hn).symm))
noncomputable def f_Walk_goByDraws_s4 (v2 : Int32) (v3 : Int32) (h : xH) : Option ((Int32 × Int32 × xH) ⊕ (Int32 × xH)) :=
  if (8 : Int32) ≤ v3 then (
  some (Sum.inr ((v2, h)))) else (
  (f_State_looseBits 25 h).bind fun r2 =>
  (f_Integer_bitCount r2 h).bind fun r4 =>
  if r4 = (0 : Int32) then (
  some (Sum.inr ((v2, h)))) else (
  xlet ((((((v2).toInt64) * (1103515245 : Int64)) + (12345 : Int64)) &&& (2147483647 : Int64)).toInt32) fun v2_7 =>
  if ¬ r4 = 0 then (
  xlet ((v2_7 / (65536 : Int32)) - (v2_7 / (65536 : Int32)) / r4 * r4) fun v6_9 =>
  f_Walk_goByDraws_l58 v2_7 v3 r2 v6_9 h) else none))
set_option maxHeartbeats 4000000 in
set_option maxRecDepth 100000 in
theorem f_Walk_goByDraws_s4_ok {g : xG} {l : Launch} {d : Nat} {v2 : Int32} {v3 : Int32} {h : xH} {o : ((Int32 × Int32 × xH) ⊕ (Int32 × xH))} {R : Option xV} {H' : xH} (hD : 3 ≤ d) (hf : f_Walk_goByDraws_s4 v2 v3 h = some o) (K1 : ∀ (w2 : Int32) (w3 : Int32) (h1 : xH), o = Sum.inl (w2, w3, h1) → xEv g l d 93 4 [(0, xr 10 (some 0)), (2, xi w2), (3, xi w3)] [] h1 R H') (K0 : ∀ (a : Int32) (h1 : xH), o = Sum.inr ((a, h1)) → R = some (xi a) ∧ H' = h1) : xEv g l d 93 4 [(0, xr 10 (some 0)), (2, xi v2), (3, xi v3)] [] h R H' := by
  unfold f_Walk_goByDraws_s4 at hf
  refine xs_iload_n d93_4 rfl ?_
  refine xs_bipush (v := 8) d93_5 (by decide) ?_
  rcases lk_if hf with ⟨hc1, hf⟩ | ⟨hc1, hf⟩
  · refine xs_icmp_ge (tgt := 103) d93_7 (by decide) (fun _ => ?_) (fun hn => absurd hc1 hn)
    refine xs_iload_n d93_103 rfl ?_
    obtain ⟨eR, eH⟩ := K0 _ _ (Option.some.inj hf).symm
    subst eR; subst eH
    exact xs_iret d93_104 rt93
  · refine xs_icmp_ge (tgt := 103) d93_7 (by decide) (fun hp => absurd hp hc1) (fun _ => ?_)
    refine xs_aload_n d93_10 rfl ?_
    refine xe_getc (j := 25) d93_11 ky93 fl111 fk10_0 rfl ?_
    obtain ⟨r2, hc3, hf⟩ := lk_b hf
    refine xe_callv1 (as := []) (st := []) (h2 := h) (d2 := d - 1) d93_14 ky93 ml73 st51 (by decide) cn51 rfl na51 (Nat.le_of_ble_eq_true rfl) (by omega) (f_State_looseBits_ok (by omega) hc3) ?_
    refine xe_istore (v := r2) (ls2 := [(0, xr 10 (some 0)), (2, xi v2), (3, xi v3), (4, xi r2)]) d93_17 mx93 (by decide) rfl rfl ?_
    refine xs_iload d93_19 rfl ?_
    obtain ⟨r4, hc5, hf⟩ := lk_b hf
    refine xe_calls1 (as := [xi r2]) (st := []) (h2 := h) (d2 := d - 1) d93_21 ky93 ml79 st255 rfl na255 (Nat.le_of_ble_eq_true rfl) (by omega) (f_Integer_bitCount_ok (by omega) hc5) ?_
    refine xe_istore (v := r4) (ls2 := [(0, xr 10 (some 0)), (2, xi v2), (3, xi v3), (4, xi r2), (5, xi r4)]) d93_24 mx93 (by decide) rfl rfl ?_
    refine xs_iload d93_26 rfl ?_
    rcases lk_if hf with ⟨hc6, hf⟩ | ⟨hc6, hf⟩
    · refine xs_if_ne (tgt := 33) d93_28 (by decide) (fun _ => ?_) (fun hn => absurd hc6 hn)
      refine xs_iload_n d93_31 rfl ?_
      obtain ⟨eR, eH⟩ := K0 _ _ (Option.some.inj hf).symm
      subst eR; subst eH
      exact xs_iret d93_32 rt93
    · refine xs_if_ne (tgt := 33) d93_28 (by decide) (fun hp => absurd hp hc6) (fun _ => ?_)
      refine xs_iload_n d93_33 rfl ?_
      refine xs_i2l d93_34 ?_
      refine xs_ldc2 (v := 1103515245) d93_35 cl10_128 ?_
      refine xs_lmul d93_38 ?_
      refine xs_ldc2 (v := 12345) d93_39 cl10_130 ?_
      refine xs_ladd d93_42 ?_
      refine xs_ldc2 (v := 2147483647) d93_43 cl10_132 ?_
      refine xs_land d93_46 ?_
      refine xs_l2i d93_47 ?_
      obtain ⟨v2_7, ev2_7, hf⟩ := lk_let hf
      refine xe_istore_n (v := v2_7) (ls2 := [(0, xr 10 (some 0)), (2, xi v2_7), (3, xi v3), (4, xi r2), (5, xi r4)]) d93_48 mx93 (by decide) ev2_7 rfl ?_
      refine xs_iload_n d93_49 rfl ?_
      refine xs_ldc (v := 65536) d93_50 cs10_134 ?_
      refine xs_idiv d93_52 (by decide) ?_
      refine xs_iload d93_53 rfl ?_
      obtain ⟨hb8, hf⟩ := lk_g hf
      refine xs_irem d93_55 hb8 ?_
      obtain ⟨v6_9, ev6_9, hf⟩ := lk_let hf
      refine xe_istore (v := v6_9) (ls2 := [(0, xr 10 (some 0)), (2, xi v2_7), (3, xi v3), (4, xi r2), (5, xi r4), (6, xi v6_9)]) d93_56 mx93 (by decide) ev6_9 rfl ?_
      refine xs_pick [0, 1, 2, 3, 5] rfl ?_
      exact f_Walk_goByDraws_l58_ok hD hf K1 K0
noncomputable def f_Walk_goByDraws_l4 (v2 : Int32) (v3 : Int32) (h : xH) : Option (Int32 × xH) :=
  whl (fun s => f_Walk_goByDraws_s4 s.1 s.2.1 s.2.2) (v2, v3, h)
theorem f_Walk_goByDraws_l4_ok {g : xG} {l : Launch} {d : Nat} {v2 : Int32} {v3 : Int32} {h : xH} {o : (Int32 × xH)} {R : Option xV} {H' : xH} (hD : 3 ≤ d) (hf : f_Walk_goByDraws_l4 v2 v3 h = some o) (K0 : ∀ (a : Int32) (h1 : xH), o = (a, h1) → R = some (xi a) ∧ H' = h1) : xEv g l d 93 4 [(0, xr 10 (some 0)), (2, xi v2), (3, xi v3)] [] h R H' := by
  obtain ⟨n, hn⟩ := whl_iff.mp hf
  clear hf
  induction n generalizing v2 v3 h with
  | zero => cases hn
  | succ n ih =>
    obtain ⟨o2, hs, hn⟩ := lk_b (show (f_Walk_goByDraws_s4 v2 v3 h).bind (fun o => Sum.elim (itn _ n) some o) = some o from hn)
    exact f_Walk_goByDraws_s4_ok hD hs (fun u0 u1 u2 e => ih (by rw [e] at hn; exact hn)) (fun u0 u1 e => K0 u0 u1 (by rw [e] at hn; exact (Option.some.inj hn).symm))
noncomputable def f_Walk_goByDraws_e (v1 : Int32) (h : xH) : Option (Int32 × xH) :=
  f_Walk_goByDraws_l4 v1 (0 : Int32) h
set_option maxHeartbeats 4000000 in
set_option maxRecDepth 100000 in
theorem f_Walk_goByDraws_e_ok {g : xG} {l : Launch} {d : Nat} {v1 : Int32} {h : xH} {o : (Int32 × xH)} {R : Option xV} {H' : xH} (hD : 3 ≤ d) (hf : f_Walk_goByDraws_e v1 h = some o) (K0 : ∀ (a : Int32) (h1 : xH), o = (a, h1) → R = some (xi a) ∧ H' = h1) : xEv g l d 93 0 [(0, xr 10 (some 0)), (1, xi v1)] [] h R H' := by
  unfold f_Walk_goByDraws_e at hf
  refine xs_iload_n d93_0 rfl ?_
  refine xe_istore_n (v := v1) (ls2 := [(0, xr 10 (some 0)), (1, xi v1), (2, xi v1)]) d93_1 mx93 (by decide) rfl rfl ?_
  refine xs_iconst (v := 0) d93_2 (by decide) ?_
  refine xe_istore_n (v := (0 : Int32)) (ls2 := [(0, xr 10 (some 0)), (1, xi v1), (2, xi v1), (3, xi (0 : Int32))]) d93_3 mx93 (by decide) rfl rfl ?_
  refine xs_pick [0, 2, 3] rfl ?_
  exact f_Walk_goByDraws_l4_ok hD hf K0
noncomputable def f_Walk_goByDraws (v1 : Int32) (h : xH) : Option (Int32 × xH) := f_Walk_goByDraws_e v1 h
theorem f_Walk_goByDraws_ok {g : xG} {l : Launch} {d : Nat} {v1 : Int32} {h : xH} {r : Int32} {h1 : xH} (hD : 3 ≤ d) (hf : f_Walk_goByDraws v1 h = some (r, h1)) : xC g l d 93 [xr 10 (some 0), xi v1] h (some (xi r)) h1 :=
  xC_of (by decide) (Nat.le_of_ble_eq_true rfl) (f_Walk_goByDraws_e_ok hD hf (fun _ _ e => by cases e; exact ⟨rfl, rfl⟩))
theorem d94_0 : decode (xcode 94) 0 = .ok (.aload_n 0, 1) := by decide +kernel
theorem d94_1 : decode (xcode 94) 1 = .ok (.getfield 10, 3) := by decide +kernel
theorem d94_4 : decode (xcode 94) 4 = .ok (.bipush 20, 2) := by decide +kernel
theorem d94_6 : decode (xcode 94) 6 = .ok (.invokevirtual 99, 3) := by decide +kernel
theorem d94_9 : decode (xcode 94) 9 = .ok (.ifCond .ne 5, 3) := by decide +kernel
theorem d94_12 : decode (xcode 94) 12 = .ok (.iconst (-1), 1) := by decide +kernel
theorem d94_13 : decode (xcode 94) 13 = .ok (.ireturn, 1) := by decide +kernel
theorem d94_14 : decode (xcode 94) 14 = .ok (.aload_n 0, 1) := by decide +kernel
theorem d94_15 : decode (xcode 94) 15 = .ok (.getfield 10, 3) := by decide +kernel
theorem d94_18 : decode (xcode 94) 18 = .ok (.iload_n 1, 1) := by decide +kernel
theorem d94_19 : decode (xcode 94) 19 = .ok (.invokevirtual 103, 3) := by decide +kernel
theorem d94_22 : decode (xcode 94) 22 = .ok (.aload_n 0, 1) := by decide +kernel
theorem d94_23 : decode (xcode 94) 23 = .ok (.getfield 10, 3) := by decide +kernel
theorem d94_26 : decode (xcode 94) 26 = .ok (.iload_n 2, 1) := by decide +kernel
theorem d94_27 : decode (xcode 94) 27 = .ok (.invokevirtual 103, 3) := by decide +kernel
theorem d94_30 : decode (xcode 94) 30 = .ok (.aload_n 0, 1) := by decide +kernel
theorem d94_31 : decode (xcode 94) 31 = .ok (.getfield 10, 3) := by decide +kernel
theorem d94_34 : decode (xcode 94) 34 = .ok (.iload_n 3, 1) := by decide +kernel
theorem d94_35 : decode (xcode 94) 35 = .ok (.invokevirtual 103, 3) := by decide +kernel
theorem d94_38 : decode (xcode 94) 38 = .ok (.aload_n 0, 1) := by decide +kernel
theorem d94_39 : decode (xcode 94) 39 = .ok (.getfield 10, 3) := by decide +kernel
theorem d94_42 : decode (xcode 94) 42 = .ok (.iload 4, 2) := by decide +kernel
theorem d94_44 : decode (xcode 94) 44 = .ok (.invokevirtual 103, 3) := by decide +kernel
theorem d94_47 : decode (xcode 94) 47 = .ok (.aload_n 0, 1) := by decide +kernel
theorem d94_48 : decode (xcode 94) 48 = .ok (.getfield 10, 3) := by decide +kernel
theorem d94_51 : decode (xcode 94) 51 = .ok (.iload 5, 2) := by decide +kernel
theorem d94_53 : decode (xcode 94) 53 = .ok (.invokevirtual 103, 3) := by decide +kernel
theorem d94_56 : decode (xcode 94) 56 = .ok (.aload_n 0, 1) := by decide +kernel
theorem d94_57 : decode (xcode 94) 57 = .ok (.getfield 10, 3) := by decide +kernel
theorem d94_60 : decode (xcode 94) 60 = .ok (.getfield 107, 3) := by decide +kernel
theorem d94_63 : decode (xcode 94) 63 = .ok (.ireturn, 1) := by decide +kernel
noncomputable def f_B_feed_e (v1 : Int32) (v2 : Int32) (v3 : Int32) (v4 : Int32) (v5 : Int32) (h : xH) : Option (Int32 × xH) :=
  (f_Tape_hasRoom (20 : Int32) h).bind fun r1 =>
  if r1 = (0 : Int32) then (
  some (((-1 : Int32), h))) else (
  (f_Tape_put v1 h).bind fun h6 =>
  (f_Tape_put v2 h6).bind fun h9 =>
  (f_Tape_put v3 h9).bind fun h12 =>
  (f_Tape_put v4 h12).bind fun h15 =>
  (f_Tape_put v5 h15).bind fun h18 =>
  some ((h18.1 7 6 0, h18)))
set_option maxHeartbeats 4000000 in
set_option maxRecDepth 100000 in
theorem f_B_feed_e_ok {g : xG} {l : Launch} {d : Nat} {v1 : Int32} {v2 : Int32} {v3 : Int32} {v4 : Int32} {v5 : Int32} {h : xH} {o : (Int32 × xH)} {R : Option xV} {H' : xH} (hD : 1 ≤ d) (hf : f_B_feed_e v1 v2 v3 v4 v5 h = some o) (K0 : ∀ (a : Int32) (h1 : xH), o = (a, h1) → R = some (xi a) ∧ H' = h1) : xEv g l d 94 0 [(0, xr 11 (some 0)), (1, xi v1), (2, xi v2), (3, xi v3), (4, xi v4), (5, xi v5)] [] h R H' := by
  unfold f_B_feed_e at hf
  refine xs_aload_n d94_0 rfl ?_
  refine xe_getc (j := 0) d94_1 ky94 fl147 fk11_0 rfl ?_
  refine xs_bipush (v := 20) d94_4 (by decide) ?_
  obtain ⟨r1, hc2, hf⟩ := lk_b hf
  refine xe_callv1 (as := [xi (20 : Int32)]) (st := []) (h2 := h) (d2 := d - 1) d94_6 ky94 ml1 st56 (by decide) cn56 rfl na56 (Nat.le_of_ble_eq_true rfl) (by omega) (f_Tape_hasRoom_ok (by omega) hc2) ?_
  rcases lk_if hf with ⟨hc3, hf⟩ | ⟨hc3, hf⟩
  · refine xs_if_ne (tgt := 14) d94_9 (by decide) (fun _ => ?_) (fun hn => absurd hc3 hn)
    refine xs_iconst (v := -1) d94_12 (by decide) ?_
    obtain ⟨eR, eH⟩ := K0 _ _ (Option.some.inj hf).symm
    subst eR; subst eH
    exact xs_iret d94_13 rt94
  · refine xs_if_ne (tgt := 14) d94_9 (by decide) (fun hp => absurd hp hc3) (fun _ => ?_)
    refine xs_aload_n d94_14 rfl ?_
    refine xe_getc (j := 0) d94_15 ky94 fl147 fk11_0 rfl ?_
    refine xs_iload_n d94_18 rfl ?_
    obtain ⟨h6, hc5, hf⟩ := lk_b hf
    refine xe_callv0 (as := [xi v1]) (st := []) (h2 := h6) (d2 := d - 1) d94_19 ky94 ml2 st57 (by decide) cn57 rfl na57 (Nat.le_of_ble_eq_true rfl) (by omega) (f_Tape_put_ok (by omega) hc5) ?_
    refine xs_aload_n d94_22 rfl ?_
    refine xe_getc (j := 0) d94_23 ky94 fl147 fk11_0 rfl ?_
    refine xs_iload_n d94_26 rfl ?_
    obtain ⟨h9, hc8, hf⟩ := lk_b hf
    refine xe_callv0 (as := [xi v2]) (st := []) (h2 := h9) (d2 := d - 1) d94_27 ky94 ml2 st57 (by decide) cn57 rfl na57 (Nat.le_of_ble_eq_true rfl) (by omega) (f_Tape_put_ok (by omega) hc8) ?_
    refine xs_aload_n d94_30 rfl ?_
    refine xe_getc (j := 0) d94_31 ky94 fl147 fk11_0 rfl ?_
    refine xs_iload_n d94_34 rfl ?_
    obtain ⟨h12, hc11, hf⟩ := lk_b hf
    refine xe_callv0 (as := [xi v3]) (st := []) (h2 := h12) (d2 := d - 1) d94_35 ky94 ml2 st57 (by decide) cn57 rfl na57 (Nat.le_of_ble_eq_true rfl) (by omega) (f_Tape_put_ok (by omega) hc11) ?_
    refine xs_aload_n d94_38 rfl ?_
    refine xe_getc (j := 0) d94_39 ky94 fl147 fk11_0 rfl ?_
    refine xs_iload d94_42 rfl ?_
    obtain ⟨h15, hc14, hf⟩ := lk_b hf
    refine xe_callv0 (as := [xi v4]) (st := []) (h2 := h15) (d2 := d - 1) d94_44 ky94 ml2 st57 (by decide) cn57 rfl na57 (Nat.le_of_ble_eq_true rfl) (by omega) (f_Tape_put_ok (by omega) hc14) ?_
    refine xs_aload_n d94_47 rfl ?_
    refine xe_getc (j := 0) d94_48 ky94 fl147 fk11_0 rfl ?_
    refine xs_iload d94_51 rfl ?_
    obtain ⟨h18, hc17, hf⟩ := lk_b hf
    refine xe_callv0 (as := [xi v5]) (st := []) (h2 := h18) (d2 := d - 1) d94_53 ky94 ml2 st57 (by decide) cn57 rfl na57 (Nat.le_of_ble_eq_true rfl) (by omega) (f_Tape_put_ok (by omega) hc17) ?_
    refine xs_aload_n d94_56 rfl ?_
    refine xe_getc (j := 0) d94_57 ky94 fl147 fk11_0 rfl ?_
    refine xe_geti d94_60 ky94 fl7 fk7_6 ?_
    obtain ⟨eR, eH⟩ := K0 _ _ (Option.some.inj hf).symm
    subst eR; subst eH
    exact xs_iret d94_63 rt94
noncomputable def f_B_feed (v1 : Int32) (v2 : Int32) (v3 : Int32) (v4 : Int32) (v5 : Int32) (h : xH) : Option (Int32 × xH) := f_B_feed_e v1 v2 v3 v4 v5 h
theorem f_B_feed_ok {g : xG} {l : Launch} {d : Nat} {v1 : Int32} {v2 : Int32} {v3 : Int32} {v4 : Int32} {v5 : Int32} {h : xH} {r : Int32} {h1 : xH} (hD : 1 ≤ d) (hf : f_B_feed v1 v2 v3 v4 v5 h = some (r, h1)) : xC g l d 94 [xr 11 (some 0), xi v1, xi v2, xi v3, xi v4, xi v5] h (some (xi r)) h1 :=
  xC_of (by decide) (Nat.le_of_ble_eq_true rfl) (f_B_feed_e_ok hD hf (fun _ _ e => by cases e; exact ⟨rfl, rfl⟩))
theorem d95_0 : decode (xcode 95) 0 = .ok (.iload_n 1, 1) := by decide +kernel
theorem d95_1 : decode (xcode 95) 1 = .ok (.ifCond .lt 14, 3) := by decide +kernel
theorem d95_4 : decode (xcode 95) 4 = .ok (.iload_n 1, 1) := by decide +kernel
theorem d95_5 : decode (xcode 95) 5 = .ok (.aload_n 0, 1) := by decide +kernel
theorem d95_6 : decode (xcode 95) 6 = .ok (.getfield 10, 3) := by decide +kernel
theorem d95_9 : decode (xcode 95) 9 = .ok (.getfield 107, 3) := by decide +kernel
theorem d95_12 : decode (xcode 95) 12 = .ok (.if_icmp .le 5, 3) := by decide +kernel
theorem d95_15 : decode (xcode 95) 15 = .ok (.iconst (-1), 1) := by decide +kernel
theorem d95_16 : decode (xcode 95) 16 = .ok (.ireturn, 1) := by decide +kernel
theorem d95_17 : decode (xcode 95) 17 = .ok (.aload_n 0, 1) := by decide +kernel
theorem d95_18 : decode (xcode 95) 18 = .ok (.getfield 10, 3) := by decide +kernel
theorem d95_21 : decode (xcode 95) 21 = .ok (.iload_n 1, 1) := by decide +kernel
theorem d95_22 : decode (xcode 95) 22 = .ok (.putfield 107, 3) := by decide +kernel
theorem d95_25 : decode (xcode 95) 25 = .ok (.iload_n 1, 1) := by decide +kernel
theorem d95_26 : decode (xcode 95) 26 = .ok (.ireturn, 1) := by decide +kernel
noncomputable def f_B_end_e (v1 : Int32) (h : xH) : Option (Int32 × xH) :=
  if v1 < (0 : Int32) then (
  some (((-1 : Int32), h))) else (
  if v1 ≤ (h.1 7 6 0) then (
  xlet (xsI h 7 6 0 v1) fun h3 =>
  some ((v1, h3))) else (
  some (((-1 : Int32), h))))
set_option maxHeartbeats 4000000 in
set_option maxRecDepth 100000 in
theorem f_B_end_e_ok {g : xG} {l : Launch} {d : Nat} {v1 : Int32} {h : xH} {o : (Int32 × xH)} {R : Option xV} {H' : xH} (hD : 0 ≤ d) (hf : f_B_end_e v1 h = some o) (K0 : ∀ (a : Int32) (h1 : xH), o = (a, h1) → R = some (xi a) ∧ H' = h1) : xEv g l d 95 0 [(0, xr 11 (some 0)), (1, xi v1)] [] h R H' := by
  unfold f_B_end_e at hf
  refine xs_iload_n d95_0 rfl ?_
  rcases lk_if hf with ⟨hc1, hf⟩ | ⟨hc1, hf⟩
  · refine xs_if_lt (tgt := 15) d95_1 (by decide) (fun _ => ?_) (fun hn => absurd hc1 hn)
    refine xs_iconst (v := -1) d95_15 (by decide) ?_
    obtain ⟨eR, eH⟩ := K0 _ _ (Option.some.inj hf).symm
    subst eR; subst eH
    exact xs_iret d95_16 rt95
  · refine xs_if_lt (tgt := 15) d95_1 (by decide) (fun hp => absurd hp hc1) (fun _ => ?_)
    refine xs_iload_n d95_4 rfl ?_
    refine xs_aload_n d95_5 rfl ?_
    refine xe_getc (j := 0) d95_6 ky95 fl147 fk11_0 rfl ?_
    refine xe_geti d95_9 ky95 fl7 fk7_6 ?_
    rcases lk_if hf with ⟨hc2, hf⟩ | ⟨hc2, hf⟩
    · refine xs_icmp_le (tgt := 17) d95_12 (by decide) (fun _ => ?_) (fun hn => absurd hc2 hn)
      refine xs_aload_n d95_17 rfl ?_
      refine xe_getc (j := 0) d95_18 ky95 fl147 fk11_0 rfl ?_
      refine xs_iload_n d95_21 rfl ?_
      obtain ⟨h3, eh3, hf⟩ := lk_let hf
      refine xe_puti d95_22 ky95 fl7 fk7_6 ft7_6 eh3 ?_
      refine xs_iload_n d95_25 rfl ?_
      obtain ⟨eR, eH⟩ := K0 _ _ (Option.some.inj hf).symm
      subst eR; subst eH
      exact xs_iret d95_26 rt95
    · refine xs_icmp_le (tgt := 17) d95_12 (by decide) (fun hp => absurd hp hc2) (fun _ => ?_)
      refine xs_iconst (v := -1) d95_15 (by decide) ?_
      obtain ⟨eR, eH⟩ := K0 _ _ (Option.some.inj hf).symm
      subst eR; subst eH
      exact xs_iret d95_16 rt95
noncomputable def f_B_end (v1 : Int32) (h : xH) : Option (Int32 × xH) := f_B_end_e v1 h
theorem f_B_end_ok {g : xG} {l : Launch} {d : Nat} {v1 : Int32} {h : xH} {r : Int32} {h1 : xH} (hD : 0 ≤ d) (hf : f_B_end v1 h = some (r, h1)) : xC g l d 95 [xr 11 (some 0), xi v1] h (some (xi r)) h1 :=
  xC_of (by decide) (Nat.le_of_ble_eq_true rfl) (f_B_end_e_ok hD hf (fun _ _ e => by cases e; exact ⟨rfl, rfl⟩))
theorem d98_0 : decode (xcode 98) 0 = .ok (.iload_n 1, 1) := by decide +kernel
theorem d98_1 : decode (xcode 98) 1 = .ok (.iconst (-1), 1) := by decide +kernel
theorem d98_2 : decode (xcode 98) 2 = .ok (.if_icmp .lt 11, 3) := by decide +kernel
theorem d98_5 : decode (xcode 98) 5 = .ok (.iload_n 1, 1) := by decide +kernel
theorem d98_6 : decode (xcode 98) 6 = .ok (.aload_n 0, 1) := by decide +kernel
theorem d98_7 : decode (xcode 98) 7 = .ok (.getfield 48, 3) := by decide +kernel
theorem d98_10 : decode (xcode 98) 10 = .ok (.if_icmp .lt 6, 3) := by decide +kernel
theorem d98_13 : decode (xcode 98) 13 = .ok (.bipush (-2), 2) := by decide +kernel
theorem d98_15 : decode (xcode 98) 15 = .ok (.ireturn, 1) := by decide +kernel
theorem d98_16 : decode (xcode 98) 16 = .ok (.aload_n 0, 1) := by decide +kernel
theorem d98_17 : decode (xcode 98) 17 = .ok (.getfield 55, 3) := by decide +kernel
theorem d98_20 : decode (xcode 98) 20 = .ok (.getfield 142, 3) := by decide +kernel
theorem d98_23 : decode (xcode 98) 23 = .ok (.istore_n 2, 1) := by decide +kernel
theorem d98_24 : decode (xcode 98) 24 = .ok (.aload_n 0, 1) := by decide +kernel
theorem d98_25 : decode (xcode 98) 25 = .ok (.getfield 55, 3) := by decide +kernel
theorem d98_28 : decode (xcode 98) 28 = .ok (.iload_n 1, 1) := by decide +kernel
theorem d98_29 : decode (xcode 98) 29 = .ok (.putfield 142, 3) := by decide +kernel
theorem d98_32 : decode (xcode 98) 32 = .ok (.iload_n 2, 1) := by decide +kernel
theorem d98_33 : decode (xcode 98) 33 = .ok (.ireturn, 1) := by decide +kernel
noncomputable def f_B_force_e (v1 : Int32) (h : xH) : Option (Int32 × xH) :=
  if v1 < (-1 : Int32) then (
  some (((-2 : Int32), h))) else (
  if v1 < (h.1 11 5 0) then (
  xlet (h.1 4 2 0) fun v2_3 =>
  xlet (xsI h 4 2 0 v1) fun h4 =>
  some ((v2_3, h4))) else (
  some (((-2 : Int32), h))))
set_option maxHeartbeats 4000000 in
set_option maxRecDepth 100000 in
theorem f_B_force_e_ok {g : xG} {l : Launch} {d : Nat} {v1 : Int32} {h : xH} {o : (Int32 × xH)} {R : Option xV} {H' : xH} (hD : 0 ≤ d) (hf : f_B_force_e v1 h = some o) (K0 : ∀ (a : Int32) (h1 : xH), o = (a, h1) → R = some (xi a) ∧ H' = h1) : xEv g l d 98 0 [(0, xr 11 (some 0)), (1, xi v1)] [] h R H' := by
  unfold f_B_force_e at hf
  refine xs_iload_n d98_0 rfl ?_
  refine xs_iconst (v := -1) d98_1 (by decide) ?_
  rcases lk_if hf with ⟨hc1, hf⟩ | ⟨hc1, hf⟩
  · refine xs_icmp_lt (tgt := 13) d98_2 (by decide) (fun _ => ?_) (fun hn => absurd hc1 hn)
    refine xs_bipush (v := -2) d98_13 (by decide) ?_
    obtain ⟨eR, eH⟩ := K0 _ _ (Option.some.inj hf).symm
    subst eR; subst eH
    exact xs_iret d98_15 rt98
  · refine xs_icmp_lt (tgt := 13) d98_2 (by decide) (fun hp => absurd hp hc1) (fun _ => ?_)
    refine xs_iload_n d98_5 rfl ?_
    refine xs_aload_n d98_6 rfl ?_
    refine xe_geti d98_7 ky98 fl152 fk11_5 ?_
    rcases lk_if hf with ⟨hc2, hf⟩ | ⟨hc2, hf⟩
    · refine xs_icmp_lt (tgt := 16) d98_10 (by decide) (fun _ => ?_) (fun hn => absurd hc2 hn)
      refine xs_aload_n d98_16 rfl ?_
      refine xe_getc (j := 0) d98_17 ky98 fl153 fk11_6 rfl ?_
      refine xe_geti d98_20 ky98 fl100 fk4_2 ?_
      obtain ⟨v2_3, ev2_3, hf⟩ := lk_let hf
      refine xe_istore_n (v := v2_3) (ls2 := [(0, xr 11 (some 0)), (1, xi v1), (2, xi v2_3)]) d98_23 mx98 (by decide) ev2_3 rfl ?_
      refine xs_aload_n d98_24 rfl ?_
      refine xe_getc (j := 0) d98_25 ky98 fl153 fk11_6 rfl ?_
      refine xs_iload_n d98_28 rfl ?_
      obtain ⟨h4, eh4, hf⟩ := lk_let hf
      refine xe_puti d98_29 ky98 fl100 fk4_2 ft4_2 eh4 ?_
      refine xs_iload_n d98_32 rfl ?_
      obtain ⟨eR, eH⟩ := K0 _ _ (Option.some.inj hf).symm
      subst eR; subst eH
      exact xs_iret d98_33 rt98
    · refine xs_icmp_lt (tgt := 16) d98_10 (by decide) (fun hp => absurd hp hc2) (fun _ => ?_)
      refine xs_bipush (v := -2) d98_13 (by decide) ?_
      obtain ⟨eR, eH⟩ := K0 _ _ (Option.some.inj hf).symm
      subst eR; subst eH
      exact xs_iret d98_15 rt98
noncomputable def f_B_force (v1 : Int32) (h : xH) : Option (Int32 × xH) := f_B_force_e v1 h
theorem f_B_force_ok {g : xG} {l : Launch} {d : Nat} {v1 : Int32} {h : xH} {r : Int32} {h1 : xH} (hD : 0 ≤ d) (hf : f_B_force v1 h = some (r, h1)) : xC g l d 98 [xr 11 (some 0), xi v1] h (some (xi r)) h1 :=
  xC_of (by decide) (Nat.le_of_ble_eq_true rfl) (f_B_force_e_ok hD hf (fun _ _ e => by cases e; exact ⟨rfl, rfl⟩))
theorem d99_0 : decode (xcode 99) 0 = .ok (.aload_n 0, 1) := by decide +kernel
theorem d99_1 : decode (xcode 99) 1 = .ok (.getfield 55, 3) := by decide +kernel
theorem d99_4 : decode (xcode 99) 4 = .ok (.getfield 114, 3) := by decide +kernel
theorem d99_7 : decode (xcode 99) 7 = .ok (.iload_n 1, 1) := by decide +kernel
theorem d99_8 : decode (xcode 99) 8 = .ok (.invokevirtual 145, 3) := by decide +kernel
theorem d99_11 : decode (xcode 99) 11 = .ok (.ifCond .ne 6, 3) := by decide +kernel
theorem d99_14 : decode (xcode 99) 14 = .ok (.bipush (-2), 2) := by decide +kernel
theorem d99_16 : decode (xcode 99) 16 = .ok (.ireturn, 1) := by decide +kernel
theorem d99_17 : decode (xcode 99) 17 = .ok (.iload_n 2, 1) := by decide +kernel
theorem d99_18 : decode (xcode 99) 18 = .ok (.tableswitch 115 0 5 #[38, 51, 64, 77, 89, 102], 38) := by decide +kernel
theorem d99_56 : decode (xcode 99) 56 = .ok (.aload_n 0, 1) := by decide +kernel
theorem d99_57 : decode (xcode 99) 57 = .ok (.getfield 55, 3) := by decide +kernel
theorem d99_60 : decode (xcode 99) 60 = .ok (.getfield 121, 3) := by decide +kernel
theorem d99_63 : decode (xcode 99) 63 = .ok (.getfield 148, 3) := by decide +kernel
theorem d99_66 : decode (xcode 99) 66 = .ok (.iload_n 1, 1) := by decide +kernel
theorem d99_67 : decode (xcode 99) 67 = .ok (.iaload, 1) := by decide +kernel
theorem d99_68 : decode (xcode 99) 68 = .ok (.ireturn, 1) := by decide +kernel
theorem d99_69 : decode (xcode 99) 69 = .ok (.aload_n 0, 1) := by decide +kernel
theorem d99_70 : decode (xcode 99) 70 = .ok (.getfield 55, 3) := by decide +kernel
theorem d99_73 : decode (xcode 99) 73 = .ok (.getfield 121, 3) := by decide +kernel
theorem d99_76 : decode (xcode 99) 76 = .ok (.getfield 151, 3) := by decide +kernel
theorem d99_79 : decode (xcode 99) 79 = .ok (.iload_n 1, 1) := by decide +kernel
theorem d99_80 : decode (xcode 99) 80 = .ok (.iaload, 1) := by decide +kernel
theorem d99_81 : decode (xcode 99) 81 = .ok (.ireturn, 1) := by decide +kernel
theorem d99_82 : decode (xcode 99) 82 = .ok (.aload_n 0, 1) := by decide +kernel
theorem d99_83 : decode (xcode 99) 83 = .ok (.getfield 55, 3) := by decide +kernel
theorem d99_86 : decode (xcode 99) 86 = .ok (.getfield 114, 3) := by decide +kernel
theorem d99_89 : decode (xcode 99) 89 = .ok (.getfield 154, 3) := by decide +kernel
theorem d99_92 : decode (xcode 99) 92 = .ok (.iload_n 1, 1) := by decide +kernel
theorem d99_93 : decode (xcode 99) 93 = .ok (.iaload, 1) := by decide +kernel
theorem d99_94 : decode (xcode 99) 94 = .ok (.ireturn, 1) := by decide +kernel
theorem d99_95 : decode (xcode 99) 95 = .ok (.aload_n 0, 1) := by decide +kernel
theorem d99_96 : decode (xcode 99) 96 = .ok (.getfield 55, 3) := by decide +kernel
theorem d99_99 : decode (xcode 99) 99 = .ok (.getfield 121, 3) := by decide +kernel
theorem d99_102 : decode (xcode 99) 102 = .ok (.iload_n 1, 1) := by decide +kernel
theorem d99_103 : decode (xcode 99) 103 = .ok (.invokevirtual 157, 3) := by decide +kernel
theorem d99_106 : decode (xcode 99) 106 = .ok (.ireturn, 1) := by decide +kernel
theorem d99_107 : decode (xcode 99) 107 = .ok (.aload_n 0, 1) := by decide +kernel
theorem d99_108 : decode (xcode 99) 108 = .ok (.getfield 55, 3) := by decide +kernel
theorem d99_111 : decode (xcode 99) 111 = .ok (.getfield 121, 3) := by decide +kernel
theorem d99_114 : decode (xcode 99) 114 = .ok (.getfield 161, 3) := by decide +kernel
theorem d99_117 : decode (xcode 99) 117 = .ok (.iload_n 1, 1) := by decide +kernel
theorem d99_118 : decode (xcode 99) 118 = .ok (.iaload, 1) := by decide +kernel
theorem d99_119 : decode (xcode 99) 119 = .ok (.ireturn, 1) := by decide +kernel
theorem d99_120 : decode (xcode 99) 120 = .ok (.aload_n 0, 1) := by decide +kernel
theorem d99_121 : decode (xcode 99) 121 = .ok (.getfield 55, 3) := by decide +kernel
theorem d99_124 : decode (xcode 99) 124 = .ok (.getfield 121, 3) := by decide +kernel
theorem d99_127 : decode (xcode 99) 127 = .ok (.getfield 164, 3) := by decide +kernel
theorem d99_130 : decode (xcode 99) 130 = .ok (.iload_n 1, 1) := by decide +kernel
theorem d99_131 : decode (xcode 99) 131 = .ok (.iaload, 1) := by decide +kernel
theorem d99_132 : decode (xcode 99) 132 = .ok (.ireturn, 1) := by decide +kernel
theorem d99_133 : decode (xcode 99) 133 = .ok (.bipush (-2), 2) := by decide +kernel
theorem d99_135 : decode (xcode 99) 135 = .ok (.ireturn, 1) := by decide +kernel
noncomputable def f_B_sorrow_e (v1 : Int32) (v2 : Int32) (h : xH) : Option Int32 :=
  (f_Told_hasSorrow 0 v1 h).bind fun r1 =>
  if r1 = (0 : Int32) then (
  some ((-2 : Int32))) else (
  if v2 = (0 : Int32) then (
  if xib v1 8 then (
  some (h.2.2.2.1 31 0 (v1).toNatClampNeg)) else none) else (
  if v2 = (1 : Int32) then (
  if xib v1 8 then (
  some (h.2.2.2.1 32 0 (v1).toNatClampNeg)) else none) else (
  if v2 = (2 : Int32) then (
  if xib v1 8 then (
  some (h.2.2.2.1 39 0 (v1).toNatClampNeg)) else none) else (
  if v2 = (3 : Int32) then (
  (f_State_standing 0 v1 h).bind fun r11 =>
  some (r11)) else (
  if v2 = (4 : Int32) then (
  if xib v1 8 then (
  some (h.2.2.2.1 29 0 (v1).toNatClampNeg)) else none) else (
  if v2 = (5 : Int32) then (
  if xib v1 8 then (
  some (h.2.2.2.1 30 0 (v1).toNatClampNeg)) else none) else (
  some ((-2 : Int32)))))))))
set_option maxHeartbeats 4000000 in
set_option maxRecDepth 100000 in
theorem f_B_sorrow_e_ok {g : xG} {l : Launch} {d : Nat} {v1 : Int32} {v2 : Int32} {h : xH} {o : Int32} {R : Option xV} (hD : 2 ≤ d) (hf : f_B_sorrow_e v1 v2 h = some o) (K0 : ∀ (a : Int32), o = a → R = some (xi a)) : xEv g l d 99 0 [(0, xr 11 (some 0)), (1, xi v1), (2, xi v2)] [] h R h := by
  unfold f_B_sorrow_e at hf
  refine xs_aload_n d99_0 rfl ?_
  refine xe_getc (j := 0) d99_1 ky99 fl153 fk11_6 rfl ?_
  refine xe_getc (j := 0) d99_4 ky99 fl96 fk4_0 rfl ?_
  refine xs_iload_n d99_7 rfl ?_
  obtain ⟨r1, hc2, hf⟩ := lk_b hf
  refine xe_callv1 (as := [xi v1]) (st := []) (h2 := h) (d2 := d - 1) d99_8 ky99 ml58 st76 (by decide) cn76 rfl na76 (Nat.le_of_ble_eq_true rfl) (by omega) (f_Told_hasSorrow_ok (by omega) hc2) ?_
  rcases lk_if hf with ⟨hc3, hf⟩ | ⟨hc3, hf⟩
  · refine xs_if_ne (tgt := 17) d99_11 (by decide) (fun _ => ?_) (fun hn => absurd hc3 hn)
    refine xs_bipush (v := -2) d99_14 (by decide) ?_
    obtain eR := K0 _ (Option.some.inj hf).symm
    subst eR
    exact xs_iret d99_16 rt99
  · refine xs_if_ne (tgt := 17) d99_11 (by decide) (fun hp => absurd hp hc3) (fun _ => ?_)
    refine xs_iload_n d99_17 rfl ?_
    rcases lk_if hf with ⟨hc4, hf⟩ | ⟨hc4, hf⟩
    · refine xs_tableIn (tgt := 56) d99_18 (by rw [hc4]; decide) (by rw [hc4]; decide) (by rw [hc4]; first | done | rfl) (by decide) ?_
      refine xs_aload_n d99_56 rfl ?_
      refine xe_getc (j := 0) d99_57 ky99 fl153 fk11_6 rfl ?_
      refine xe_getc (j := 0) d99_60 ky99 fl98 fk4_1 rfl ?_
      refine xe_getc (j := 0) d99_63 ky99 fl89 fk6_6 rfl ?_
      refine xs_iload_n d99_66 rfl ?_
      obtain ⟨hin5, hf⟩ := lk_g hf
      refine xe_iald d99_67 (by decide) ak31 hin5 ?_
      obtain eR := K0 _ (Option.some.inj hf).symm
      subst eR
      exact xs_iret d99_68 rt99
    · skip
      rcases lk_if hf with ⟨hc6, hf⟩ | ⟨hc6, hf⟩
      · refine xs_tableIn (tgt := 69) d99_18 (by rw [hc6]; decide) (by rw [hc6]; decide) (by rw [hc6]; first | done | rfl) (by decide) ?_
        refine xs_aload_n d99_69 rfl ?_
        refine xe_getc (j := 0) d99_70 ky99 fl153 fk11_6 rfl ?_
        refine xe_getc (j := 0) d99_73 ky99 fl98 fk4_1 rfl ?_
        refine xe_getc (j := 0) d99_76 ky99 fl93 fk6_7 rfl ?_
        refine xs_iload_n d99_79 rfl ?_
        obtain ⟨hin7, hf⟩ := lk_g hf
        refine xe_iald d99_80 (by decide) ak32 hin7 ?_
        obtain eR := K0 _ (Option.some.inj hf).symm
        subst eR
        exact xs_iret d99_81 rt99
      · skip
        rcases lk_if hf with ⟨hc8, hf⟩ | ⟨hc8, hf⟩
        · refine xs_tableIn (tgt := 82) d99_18 (by rw [hc8]; decide) (by rw [hc8]; decide) (by rw [hc8]; first | done | rfl) (by decide) ?_
          refine xs_aload_n d99_82 rfl ?_
          refine xe_getc (j := 0) d99_83 ky99 fl153 fk11_6 rfl ?_
          refine xe_getc (j := 0) d99_86 ky99 fl96 fk4_0 rfl ?_
          refine xe_getc (j := 0) d99_89 ky99 fl46 fk8_7 rfl ?_
          refine xs_iload_n d99_92 rfl ?_
          obtain ⟨hin9, hf⟩ := lk_g hf
          refine xe_iald d99_93 (by decide) ak39 hin9 ?_
          obtain eR := K0 _ (Option.some.inj hf).symm
          subst eR
          exact xs_iret d99_94 rt99
        · skip
          rcases lk_if hf with ⟨hc10, hf⟩ | ⟨hc10, hf⟩
          · refine xs_tableIn (tgt := 95) d99_18 (by rw [hc10]; decide) (by rw [hc10]; decide) (by rw [hc10]; first | done | rfl) (by decide) ?_
            refine xs_aload_n d99_95 rfl ?_
            refine xe_getc (j := 0) d99_96 ky99 fl153 fk11_6 rfl ?_
            refine xe_getc (j := 0) d99_99 ky99 fl98 fk4_1 rfl ?_
            refine xs_iload_n d99_102 rfl ?_
            obtain ⟨r11, hc12, hf⟩ := lk_b hf
            refine xe_callv1 (as := [xi v1]) (st := []) (h2 := h) (d2 := d - 1) d99_103 ky99 ml59 st50 (by decide) cn50 rfl na50 (Nat.le_of_ble_eq_true rfl) (by omega) (f_State_standing_ok (by omega) hc12) ?_
            obtain eR := K0 _ (Option.some.inj hf).symm
            subst eR
            exact xs_iret d99_106 rt99
          · skip
            rcases lk_if hf with ⟨hc13, hf⟩ | ⟨hc13, hf⟩
            · refine xs_tableIn (tgt := 107) d99_18 (by rw [hc13]; decide) (by rw [hc13]; decide) (by rw [hc13]; first | done | rfl) (by decide) ?_
              refine xs_aload_n d99_107 rfl ?_
              refine xe_getc (j := 0) d99_108 ky99 fl153 fk11_6 rfl ?_
              refine xe_getc (j := 0) d99_111 ky99 fl98 fk4_1 rfl ?_
              refine xe_getc (j := 0) d99_114 ky99 fl83 fk6_4 rfl ?_
              refine xs_iload_n d99_117 rfl ?_
              obtain ⟨hin14, hf⟩ := lk_g hf
              refine xe_iald d99_118 (by decide) ak29 hin14 ?_
              obtain eR := K0 _ (Option.some.inj hf).symm
              subst eR
              exact xs_iret d99_119 rt99
            · skip
              rcases lk_if hf with ⟨hc15, hf⟩ | ⟨hc15, hf⟩
              · refine xs_tableIn (tgt := 120) d99_18 (by rw [hc15]; decide) (by rw [hc15]; decide) (by rw [hc15]; first | done | rfl) (by decide) ?_
                refine xs_aload_n d99_120 rfl ?_
                refine xe_getc (j := 0) d99_121 ky99 fl153 fk11_6 rfl ?_
                refine xe_getc (j := 0) d99_124 ky99 fl98 fk4_1 rfl ?_
                refine xe_getc (j := 0) d99_127 ky99 fl86 fk6_5 rfl ?_
                refine xs_iload_n d99_130 rfl ?_
                obtain ⟨hin16, hf⟩ := lk_g hf
                refine xe_iald d99_131 (by decide) ak30 hin16 ?_
                obtain eR := K0 _ (Option.some.inj hf).symm
                subst eR
                exact xs_iret d99_132 rt99
              · skip
                refine xs_tableOut (tgt := 133) d99_18 (xsw_out (fun k q1 q2 => ?_)) (by decide) ?_
                · rcases (show k = 0 ∨ k = 1 ∨ k = 2 ∨ k = 3 ∨ k = 4 ∨ k = 5 by omega) with rfl | rfl | rfl | rfl | rfl | rfl
                  · exact fun e => hc4 (e.trans (by decide))
                  · exact fun e => hc6 (e.trans (by decide))
                  · exact fun e => hc8 (e.trans (by decide))
                  · exact fun e => hc10 (e.trans (by decide))
                  · exact fun e => hc13 (e.trans (by decide))
                  · exact fun e => hc15 (e.trans (by decide))
                · skip
                  refine xs_bipush (v := -2) d99_133 (by decide) ?_
                  obtain eR := K0 _ (Option.some.inj hf).symm
                  subst eR
                  exact xs_iret d99_135 rt99
noncomputable def f_B_sorrow (v1 : Int32) (v2 : Int32) (h : xH) : Option Int32 := f_B_sorrow_e v1 v2 h
theorem f_B_sorrow_ok {g : xG} {l : Launch} {d : Nat} {v1 : Int32} {v2 : Int32} {h : xH} {r : Int32} (hD : 2 ≤ d) (hf : f_B_sorrow v1 v2 h = some r) : xC g l d 99 [xr 11 (some 0), xi v1, xi v2] h (some (xi r)) h :=
  xC_of (by decide) (Nat.le_of_ble_eq_true rfl) (f_B_sorrow_e_ok hD hf (fun _ e => by rw [e]))
theorem d100_0 : decode (xcode 100) 0 = .ok (.iload_n 1, 1) := by decide +kernel
theorem d100_1 : decode (xcode 100) 1 = .ok (.ifCond .lt 17, 3) := by decide +kernel
theorem d100_4 : decode (xcode 100) 4 = .ok (.iload_n 1, 1) := by decide +kernel
theorem d100_5 : decode (xcode 100) 5 = .ok (.aload_n 0, 1) := by decide +kernel
theorem d100_6 : decode (xcode 100) 6 = .ok (.getfield 55, 3) := by decide +kernel
theorem d100_9 : decode (xcode 100) 9 = .ok (.getfield 114, 3) := by decide +kernel
theorem d100_12 : decode (xcode 100) 12 = .ok (.getfield 167, 3) := by decide +kernel
theorem d100_15 : decode (xcode 100) 15 = .ok (.if_icmp .lt 5, 3) := by decide +kernel
theorem d100_18 : decode (xcode 100) 18 = .ok (.iconst (-1), 1) := by decide +kernel
theorem d100_19 : decode (xcode 100) 19 = .ok (.ireturn, 1) := by decide +kernel
theorem d100_20 : decode (xcode 100) 20 = .ok (.aload_n 0, 1) := by decide +kernel
theorem d100_21 : decode (xcode 100) 21 = .ok (.getfield 55, 3) := by decide +kernel
theorem d100_24 : decode (xcode 100) 24 = .ok (.getfield 114, 3) := by decide +kernel
theorem d100_27 : decode (xcode 100) 27 = .ok (.getfield 170, 3) := by decide +kernel
theorem d100_30 : decode (xcode 100) 30 = .ok (.iload_n 1, 1) := by decide +kernel
theorem d100_31 : decode (xcode 100) 31 = .ok (.iaload, 1) := by decide +kernel
theorem d100_32 : decode (xcode 100) 32 = .ok (.ireturn, 1) := by decide +kernel
noncomputable def f_B_carrier_e (v1 : Int32) (h : xH) : Option Int32 :=
  if v1 < (0 : Int32) then (
  some ((-1 : Int32))) else (
  if v1 < (h.1 8 4 0) then (
  if xib v1 4 then (
  some (h.2.2.2.1 41 0 (v1).toNatClampNeg)) else none) else (
  some ((-1 : Int32))))
set_option maxHeartbeats 4000000 in
set_option maxRecDepth 100000 in
theorem f_B_carrier_e_ok {g : xG} {l : Launch} {d : Nat} {v1 : Int32} {h : xH} {o : Int32} {R : Option xV} (hD : 0 ≤ d) (hf : f_B_carrier_e v1 h = some o) (K0 : ∀ (a : Int32), o = a → R = some (xi a)) : xEv g l d 100 0 [(0, xr 11 (some 0)), (1, xi v1)] [] h R h := by
  unfold f_B_carrier_e at hf
  refine xs_iload_n d100_0 rfl ?_
  rcases lk_if hf with ⟨hc1, hf⟩ | ⟨hc1, hf⟩
  · refine xs_if_lt (tgt := 18) d100_1 (by decide) (fun _ => ?_) (fun hn => absurd hc1 hn)
    refine xs_iconst (v := -1) d100_18 (by decide) ?_
    obtain eR := K0 _ (Option.some.inj hf).symm
    subst eR
    exact xs_iret d100_19 rt100
  · refine xs_if_lt (tgt := 18) d100_1 (by decide) (fun hp => absurd hp hc1) (fun _ => ?_)
    refine xs_iload_n d100_4 rfl ?_
    refine xs_aload_n d100_5 rfl ?_
    refine xe_getc (j := 0) d100_6 ky100 fl153 fk11_6 rfl ?_
    refine xe_getc (j := 0) d100_9 ky100 fl96 fk4_0 rfl ?_
    refine xe_geti d100_12 ky100 fl36 fk8_4 ?_
    rcases lk_if hf with ⟨hc2, hf⟩ | ⟨hc2, hf⟩
    · refine xs_icmp_lt (tgt := 20) d100_15 (by decide) (fun _ => ?_) (fun hn => absurd hc2 hn)
      refine xs_aload_n d100_20 rfl ?_
      refine xe_getc (j := 0) d100_21 ky100 fl153 fk11_6 rfl ?_
      refine xe_getc (j := 0) d100_24 ky100 fl96 fk4_0 rfl ?_
      refine xe_getc (j := 0) d100_27 ky100 fl53 fk8_9 rfl ?_
      refine xs_iload_n d100_30 rfl ?_
      obtain ⟨hin3, hf⟩ := lk_g hf
      refine xe_iald d100_31 (by decide) ak41 hin3 ?_
      obtain eR := K0 _ (Option.some.inj hf).symm
      subst eR
      exact xs_iret d100_32 rt100
    · refine xs_icmp_lt (tgt := 20) d100_15 (by decide) (fun hp => absurd hp hc2) (fun _ => ?_)
      refine xs_iconst (v := -1) d100_18 (by decide) ?_
      obtain eR := K0 _ (Option.some.inj hf).symm
      subst eR
      exact xs_iret d100_19 rt100
noncomputable def f_B_carrier (v1 : Int32) (h : xH) : Option Int32 := f_B_carrier_e v1 h
theorem f_B_carrier_ok {g : xG} {l : Launch} {d : Nat} {v1 : Int32} {h : xH} {r : Int32} (hD : 0 ≤ d) (hf : f_B_carrier v1 h = some r) : xC g l d 100 [xr 11 (some 0), xi v1] h (some (xi r)) h :=
  xC_of (by decide) (Nat.le_of_ble_eq_true rfl) (f_B_carrier_e_ok hD hf (fun _ e => by rw [e]))
theorem d130_0 : decode (xcode 130) 0 = .ok (.iload_n 1, 1) := by decide +kernel
theorem d130_1 : decode (xcode 130) 1 = .ok (.ifCond .lt 26, 3) := by decide +kernel
theorem d130_4 : decode (xcode 130) 4 = .ok (.iload_n 1, 1) := by decide +kernel
theorem d130_5 : decode (xcode 130) 5 = .ok (.aload_n 0, 1) := by decide +kernel
theorem d130_6 : decode (xcode 130) 6 = .ok (.getfield 48, 3) := by decide +kernel
theorem d130_9 : decode (xcode 130) 9 = .ok (.if_icmp .ge 18, 3) := by decide +kernel
theorem d130_12 : decode (xcode 130) 12 = .ok (.iload_n 1, 1) := by decide +kernel
theorem d130_13 : decode (xcode 130) 13 = .ok (.bipush 6, 2) := by decide +kernel
theorem d130_15 : decode (xcode 130) 15 = .ok (.if_icmp .ge 12, 3) := by decide +kernel
theorem d130_18 : decode (xcode 130) 18 = .ok (.aload_n 0, 1) := by decide +kernel
theorem d130_19 : decode (xcode 130) 19 = .ok (.getfield 43, 3) := by decide +kernel
theorem d130_22 : decode (xcode 130) 22 = .ok (.iload_n 1, 1) := by decide +kernel
theorem d130_23 : decode (xcode 130) 23 = .ok (.aaload, 1) := by decide +kernel
theorem d130_24 : decode (xcode 130) 24 = .ok (.goto 4, 3) := by decide +kernel
theorem d130_27 : decode (xcode 130) 27 = .ok (.aconst_null, 1) := by decide +kernel
theorem d130_28 : decode (xcode 130) 28 = .ok (.areturn, 1) := by decide +kernel
noncomputable def f_B_ruleNumbered_b27 (h : xH) : Option (Option Nat) :=
  some ((none))
set_option maxHeartbeats 4000000 in
set_option maxRecDepth 100000 in
theorem f_B_ruleNumbered_b27_ok {g : xG} {l : Launch} {d : Nat} {h : xH} {o : (Option Nat)} {R : Option xV} (hD : 0 ≤ d) (hf : f_B_ruleNumbered_b27 h = some o) (K0 : ∀ (a : Option Nat), o = a → R = some (xr 2 a)) : xEv g l d 130 27 [] [] h R h := by
  unfold f_B_ruleNumbered_b27 at hf
  refine xs_null 2 d130_27 ?_
  obtain eR := K0 _ (Option.some.inj hf).symm
  subst eR
  exact xs_aret d130_28 rt130
noncomputable def f_B_ruleNumbered_e (v1 : Int32) (h : xH) : Option (Option Nat) :=
  if v1 < (0 : Int32) then (
  f_B_ruleNumbered_b27 h) else (
  if (h.1 11 5 0) ≤ v1 then (
  f_B_ruleNumbered_b27 h) else (
  if (6 : Int32) ≤ v1 then (
  f_B_ruleNumbered_b27 h) else (
  if xib v1 6 then (
  some ((some (0 + (v1).toNatClampNeg)))) else none)))
set_option maxHeartbeats 4000000 in
set_option maxRecDepth 100000 in
theorem f_B_ruleNumbered_e_ok {g : xG} {l : Launch} {d : Nat} {v1 : Int32} {h : xH} {o : (Option Nat)} {R : Option xV} (hD : 0 ≤ d) (hf : f_B_ruleNumbered_e v1 h = some o) (K0 : ∀ (a : Option Nat), o = a → R = some (xr 2 a)) : xEv g l d 130 0 [(0, xr 11 (some 0)), (1, xi v1)] [] h R h := by
  unfold f_B_ruleNumbered_e at hf
  refine xs_iload_n d130_0 rfl ?_
  rcases lk_if hf with ⟨hc1, hf⟩ | ⟨hc1, hf⟩
  · refine xs_if_lt (tgt := 27) d130_1 (by decide) (fun _ => ?_) (fun hn => absurd hc1 hn)
    refine xs_pick [] rfl ?_
    exact f_B_ruleNumbered_b27_ok hD hf K0
  · refine xs_if_lt (tgt := 27) d130_1 (by decide) (fun hp => absurd hp hc1) (fun _ => ?_)
    refine xs_iload_n d130_4 rfl ?_
    refine xs_aload_n d130_5 rfl ?_
    refine xe_geti d130_6 ky130 fl152 fk11_5 ?_
    rcases lk_if hf with ⟨hc2, hf⟩ | ⟨hc2, hf⟩
    · refine xs_icmp_ge (tgt := 27) d130_9 (by decide) (fun _ => ?_) (fun hn => absurd hc2 hn)
      refine xs_pick [] rfl ?_
      exact f_B_ruleNumbered_b27_ok hD hf K0
    · refine xs_icmp_ge (tgt := 27) d130_9 (by decide) (fun hp => absurd hp hc2) (fun _ => ?_)
      refine xs_iload_n d130_12 rfl ?_
      refine xs_bipush (v := 6) d130_13 (by decide) ?_
      rcases lk_if hf with ⟨hc3, hf⟩ | ⟨hc3, hf⟩
      · refine xs_icmp_ge (tgt := 27) d130_15 (by decide) (fun _ => ?_) (fun hn => absurd hc3 hn)
        refine xs_pick [] rfl ?_
        exact f_B_ruleNumbered_b27_ok hD hf K0
      · refine xs_icmp_ge (tgt := 27) d130_15 (by decide) (fun hp => absurd hp hc3) (fun _ => ?_)
        refine xs_aload_n d130_18 rfl ?_
        refine xe_getc (j := 0) d130_19 ky130 fl151 fk11_4 rfl ?_
        refine xs_iload_n d130_22 rfl ?_
        obtain ⟨hin4, hf⟩ := lk_g hf
        refine xe_aald d130_23 (by decide) ak43 ⟨by decide, by decide, by decide⟩ hin4 ?_
        refine xs_goto (tgt := 28) d130_24 (by decide) ?_
        obtain eR := K0 _ (Option.some.inj hf).symm
        subst eR
        exact xs_aret d130_28 rt130
noncomputable def f_B_ruleNumbered (v1 : Int32) (h : xH) : Option (Option Nat) := f_B_ruleNumbered_e v1 h
theorem f_B_ruleNumbered_ok {g : xG} {l : Launch} {d : Nat} {v1 : Int32} {h : xH} {r : Option Nat} (hD : 0 ≤ d) (hf : f_B_ruleNumbered v1 h = some r) : xC g l d 130 [xr 11 (some 0), xi v1] h (some (xr 2 r)) h :=
  xC_of (by decide) (Nat.le_of_ble_eq_true rfl) (f_B_ruleNumbered_e_ok hD hf (fun _ e => by rw [e]))
theorem d131_0 : decode (xcode 131) 0 = .ok (.aload_n 0, 1) := by decide +kernel
theorem d131_1 : decode (xcode 131) 1 = .ok (.getfield 77, 3) := by decide +kernel
theorem d131_4 : decode (xcode 131) 4 = .ok (.aload_n 0, 1) := by decide +kernel
theorem d131_5 : decode (xcode 131) 5 = .ok (.getfield 55, 3) := by decide +kernel
theorem d131_8 : decode (xcode 131) 8 = .ok (.getfield 114, 3) := by decide +kernel
theorem d131_11 : decode (xcode 131) 11 = .ok (.aload_n 0, 1) := by decide +kernel
theorem d131_12 : decode (xcode 131) 12 = .ok (.getfield 55, 3) := by decide +kernel
theorem d131_15 : decode (xcode 131) 15 = .ok (.getfield 121, 3) := by decide +kernel
theorem d131_18 : decode (xcode 131) 18 = .ok (.aload_n 0, 1) := by decide +kernel
theorem d131_19 : decode (xcode 131) 19 = .ok (.aload_n 0, 1) := by decide +kernel
theorem d131_20 : decode (xcode 131) 20 = .ok (.getfield 55, 3) := by decide +kernel
theorem d131_23 : decode (xcode 131) 23 = .ok (.getfield 142, 3) := by decide +kernel
theorem d131_26 : decode (xcode 131) 26 = .ok (.invokevirtual 344, 3) := by decide +kernel
theorem d131_29 : decode (xcode 131) 29 = .ok (.invokevirtual 348, 3) := by decide +kernel
theorem d131_32 : decode (xcode 131) 32 = .ok (.return_, 1) := by decide +kernel
noncomputable def f_B_startNow_e (h : xH) : Option xH :=
  (f_B_ruleNumbered (h.1 4 2 0) h).bind fun r1 =>
  (f_Walk_start 0 0 (r1) h).bind fun h5 =>
  some (h5)
set_option maxHeartbeats 4000000 in
set_option maxRecDepth 100000 in
theorem f_B_startNow_e_ok {g : xG} {l : Launch} {d : Nat} {h : xH} {o : xH} {R : Option xV} {H' : xH} (hD : 3 ≤ d) (hf : f_B_startNow_e h = some o) (K0 : ∀ (h1 : xH), o = h1 → R = none ∧ H' = h1) : xEv g l d 131 0 [(0, xr 11 (some 0))] [] h R H' := by
  unfold f_B_startNow_e at hf
  refine xs_aload_n d131_0 rfl ?_
  refine xe_getc (j := 0) d131_1 ky131 fl157 fk11_10 rfl ?_
  refine xs_aload_n d131_4 rfl ?_
  refine xe_getc (j := 0) d131_5 ky131 fl153 fk11_6 rfl ?_
  refine xe_getc (j := 0) d131_8 ky131 fl96 fk4_0 rfl ?_
  refine xs_aload_n d131_11 rfl ?_
  refine xe_getc (j := 0) d131_12 ky131 fl153 fk11_6 rfl ?_
  refine xe_getc (j := 0) d131_15 ky131 fl98 fk4_1 rfl ?_
  refine xs_aload_n d131_18 rfl ?_
  refine xs_aload_n d131_19 rfl ?_
  refine xe_getc (j := 0) d131_20 ky131 fl153 fk11_6 rfl ?_
  refine xe_geti d131_23 ky131 fl100 fk4_2 ?_
  obtain ⟨r1, hc2, hf⟩ := lk_b hf
  refine xe_callv1 (as := [xi (h.1 4 2 0)]) (st := [xr 6 (some 0), xr 8 (some 0), xr 10 (some 0)]) (h2 := h) (d2 := d - 1) d131_26 ky131 ml68 st130 (by decide) cn130 rfl na130 (Nat.le_of_ble_eq_true rfl) (by omega) (f_B_ruleNumbered_ok (by omega) hc2) ?_
  obtain ⟨h5, hc4, hf⟩ := lk_b hf
  refine xe_callv0 (as := [xr 8 (some 0), xr 6 (some 0), xr 2 (r1)]) (st := []) (h2 := h5) (d2 := d - 1) d131_29 ky131 ml69 st85 (by decide) cn85 rfl na85 (Nat.le_of_ble_eq_true rfl) (by omega) (f_Walk_start_ok (by omega) hc4) ?_
  obtain ⟨eR, eH⟩ := K0 _ (Option.some.inj hf).symm
  subst eR; subst eH
  exact xs_vret d131_32 rt131
noncomputable def f_B_startNow (h : xH) : Option xH := f_B_startNow_e h
theorem f_B_startNow_ok {g : xG} {l : Launch} {d : Nat} {h : xH} {h1 : xH} (hD : 3 ≤ d) (hf : f_B_startNow h = some h1) : xC g l d 131 [xr 11 (some 0)] h none h1 :=
  xC_of (by decide) (Nat.le_of_ble_eq_true rfl) (f_B_startNow_e_ok hD hf (fun _ e => ⟨rfl, e⟩))
theorem d101_0 : decode (xcode 101) 0 = .ok (.aload_n 0, 1) := by decide +kernel
theorem d101_1 : decode (xcode 101) 1 = .ok (.getfield 55, 3) := by decide +kernel
theorem d101_4 : decode (xcode 101) 4 = .ok (.getfield 114, 3) := by decide +kernel
theorem d101_7 : decode (xcode 101) 7 = .ok (.getfield 173, 3) := by decide +kernel
theorem d101_10 : decode (xcode 101) 10 = .ok (.ifCond .eq 19, 3) := by decide +kernel
theorem d101_13 : decode (xcode 101) 13 = .ok (.aload_n 0, 1) := by decide +kernel
theorem d101_14 : decode (xcode 101) 14 = .ok (.getfield 55, 3) := by decide +kernel
theorem d101_17 : decode (xcode 101) 17 = .ok (.getfield 121, 3) := by decide +kernel
theorem d101_20 : decode (xcode 101) 20 = .ok (.getfield 177, 3) := by decide +kernel
theorem d101_23 : decode (xcode 101) 23 = .ok (.sipush 999, 3) := by decide +kernel
theorem d101_26 : decode (xcode 101) 26 = .ok (.if_icmp .lt 5, 3) := by decide +kernel
theorem d101_29 : decode (xcode 101) 29 = .ok (.iconst (-1), 1) := by decide +kernel
theorem d101_30 : decode (xcode 101) 30 = .ok (.ireturn, 1) := by decide +kernel
theorem d101_31 : decode (xcode 101) 31 = .ok (.aload_n 0, 1) := by decide +kernel
theorem d101_32 : decode (xcode 101) 32 = .ok (.getfield 70, 3) := by decide +kernel
theorem d101_35 : decode (xcode 101) 35 = .ok (.aload_n 0, 1) := by decide +kernel
theorem d101_36 : decode (xcode 101) 36 = .ok (.getfield 55, 3) := by decide +kernel
theorem d101_39 : decode (xcode 101) 39 = .ok (.getfield 121, 3) := by decide +kernel
theorem d101_42 : decode (xcode 101) 42 = .ok (.invokevirtual 180, 3) := by decide +kernel
theorem d101_45 : decode (xcode 101) 45 = .ok (.aload_n 0, 1) := by decide +kernel
theorem d101_46 : decode (xcode 101) 46 = .ok (.invokevirtual 184, 3) := by decide +kernel
theorem d101_49 : decode (xcode 101) 49 = .ok (.aload_n 0, 1) := by decide +kernel
theorem d101_50 : decode (xcode 101) 50 = .ok (.getfield 77, 3) := by decide +kernel
theorem d101_53 : decode (xcode 101) 53 = .ok (.invokevirtual 187, 3) := by decide +kernel
theorem d101_56 : decode (xcode 101) 56 = .ok (.istore_n 1, 1) := by decide +kernel
theorem d101_57 : decode (xcode 101) 57 = .ok (.aload_n 0, 1) := by decide +kernel
theorem d101_58 : decode (xcode 101) 58 = .ok (.getfield 55, 3) := by decide +kernel
theorem d101_61 : decode (xcode 101) 61 = .ok (.getfield 121, 3) := by decide +kernel
theorem d101_64 : decode (xcode 101) 64 = .ok (.aload_n 0, 1) := by decide +kernel
theorem d101_65 : decode (xcode 101) 65 = .ok (.getfield 77, 3) := by decide +kernel
theorem d101_68 : decode (xcode 101) 68 = .ok (.getfield 190, 3) := by decide +kernel
theorem d101_71 : decode (xcode 101) 71 = .ok (.invokevirtual 191, 3) := by decide +kernel
theorem d101_74 : decode (xcode 101) 74 = .ok (.iload_n 1, 1) := by decide +kernel
theorem d101_75 : decode (xcode 101) 75 = .ok (.iconst (-1), 1) := by decide +kernel
theorem d101_76 : decode (xcode 101) 76 = .ok (.if_icmp .ne 8, 3) := by decide +kernel
theorem d101_79 : decode (xcode 101) 79 = .ok (.bipush (-2), 2) := by decide +kernel
theorem d101_81 : decode (xcode 101) 81 = .ok (.goto 4, 3) := by decide +kernel
theorem d101_84 : decode (xcode 101) 84 = .ok (.iload_n 1, 1) := by decide +kernel
theorem d101_85 : decode (xcode 101) 85 = .ok (.ireturn, 1) := by decide +kernel
noncomputable def f_B_step_e (h : xH) : Option (Int32 × xH) :=
  if (h.1 8 0 0) = (0 : Int32) then (
  some (((-1 : Int32), h))) else (
  if (h.1 6 1 0) < (999 : Int32) then (
  (f_Past_keep 0 h).bind fun h5 =>
  (f_B_startNow h5).bind fun h8 =>
  (f_Walk_goOn h8).bind fun q11 =>
  (f_State_copyFrom 0 25 q11.2).bind fun h14 =>
  if q11.1 = (-1 : Int32) then (
  some (((-2 : Int32), h14))) else (
  some ((q11.1, h14)))) else (
  some (((-1 : Int32), h))))
set_option maxHeartbeats 4000000 in
set_option maxRecDepth 100000 in
theorem f_B_step_e_ok {g : xG} {l : Launch} {d : Nat} {h : xH} {o : (Int32 × xH)} {R : Option xV} {H' : xH} (hD : 5 ≤ d) (hf : f_B_step_e h = some o) (K0 : ∀ (a : Int32) (h1 : xH), o = (a, h1) → R = some (xi a) ∧ H' = h1) : xEv g l d 101 0 [(0, xr 11 (some 0))] [] h R H' := by
  unfold f_B_step_e at hf
  refine xs_aload_n d101_0 rfl ?_
  refine xe_getc (j := 0) d101_1 ky101 fl153 fk11_6 rfl ?_
  refine xe_getc (j := 0) d101_4 ky101 fl96 fk4_0 rfl ?_
  refine xe_geti d101_7 ky101 fl19 fk8_0 ?_
  rcases lk_if hf with ⟨hc1, hf⟩ | ⟨hc1, hf⟩
  · refine xs_if_eq (tgt := 29) d101_10 (by decide) (fun _ => ?_) (fun hn => absurd hc1 hn)
    refine xs_iconst (v := -1) d101_29 (by decide) ?_
    obtain ⟨eR, eH⟩ := K0 _ _ (Option.some.inj hf).symm
    subst eR; subst eH
    exact xs_iret d101_30 rt101
  · refine xs_if_eq (tgt := 29) d101_10 (by decide) (fun hp => absurd hp hc1) (fun _ => ?_)
    refine xs_aload_n d101_13 rfl ?_
    refine xe_getc (j := 0) d101_14 ky101 fl153 fk11_6 rfl ?_
    refine xe_getc (j := 0) d101_17 ky101 fl98 fk4_1 rfl ?_
    refine xe_geti d101_20 ky101 fl73 fk6_1 ?_
    refine xs_sipush (v := 999) d101_23 (by decide) ?_
    rcases lk_if hf with ⟨hc2, hf⟩ | ⟨hc2, hf⟩
    · refine xs_icmp_lt (tgt := 31) d101_26 (by decide) (fun _ => ?_) (fun hn => absurd hc2 hn)
      refine xs_aload_n d101_31 rfl ?_
      refine xe_getc (j := 0) d101_32 ky101 fl156 fk11_9 rfl ?_
      refine xs_aload_n d101_35 rfl ?_
      refine xe_getc (j := 0) d101_36 ky101 fl153 fk11_6 rfl ?_
      refine xe_getc (j := 0) d101_39 ky101 fl98 fk4_1 rfl ?_
      obtain ⟨h5, hc4, hf⟩ := lk_b hf
      refine xe_callv0 (as := [xr 6 (some 0)]) (st := []) (h2 := h5) (d2 := d - 1) d101_42 ky101 ml64 st6 (by decide) cn6 rfl na6 (Nat.le_of_ble_eq_true rfl) (by omega) (f_Past_keep_ok (by omega) hc4) ?_
      refine xs_aload_n d101_45 rfl ?_
      obtain ⟨h8, hc7, hf⟩ := lk_b hf
      refine xe_callv0 (as := []) (st := []) (h2 := h8) (d2 := d - 1) d101_46 ky101 ml67 st131 (by decide) cn131 rfl na131 (Nat.le_of_ble_eq_true rfl) (by omega) (f_B_startNow_ok (by omega) hc7) ?_
      refine xs_aload_n d101_49 rfl ?_
      refine xe_getc (j := 0) d101_50 ky101 fl157 fk11_10 rfl ?_
      obtain ⟨q11, hc10, hf⟩ := lk_b hf
      refine xe_callv1 (as := []) (st := []) (h2 := q11.2) (d2 := d - 1) d101_53 ky101 ml71 st87 (by decide) cn87 rfl na87 (Nat.le_of_ble_eq_true rfl) (by omega) (f_Walk_goOn_ok (by omega) hc10) ?_
      refine xe_istore_n (v := q11.1) (ls2 := [(0, xr 11 (some 0)), (1, xi q11.1)]) d101_56 mx101 (by decide) rfl rfl ?_
      refine xs_aload_n d101_57 rfl ?_
      refine xe_getc (j := 0) d101_58 ky101 fl153 fk11_6 rfl ?_
      refine xe_getc (j := 0) d101_61 ky101 fl98 fk4_1 rfl ?_
      refine xs_aload_n d101_64 rfl ?_
      refine xe_getc (j := 0) d101_65 ky101 fl157 fk11_10 rfl ?_
      refine xe_getc (j := 25) d101_68 ky101 fl112 fk10_0 rfl ?_
      obtain ⟨h14, hc13, hf⟩ := lk_b hf
      refine xe_callv0 (as := [xr 6 (some 25)]) (st := []) (h2 := h14) (d2 := d - 1) d101_71 ky101 ml91 st46 (by decide) cn46 rfl na46 (Nat.le_of_ble_eq_true rfl) (by omega) (f_State_copyFrom_ok (by omega) hc13) ?_
      refine xs_iload_n d101_74 rfl ?_
      refine xs_iconst (v := -1) d101_75 (by decide) ?_
      rcases lk_if hf with ⟨hc15, hf⟩ | ⟨hc15, hf⟩
      · refine xs_icmp_ne (tgt := 84) d101_76 (by decide) (fun _ => ?_) (fun hn => absurd hc15 hn)
        refine xs_bipush (v := -2) d101_79 (by decide) ?_
        refine xs_goto (tgt := 85) d101_81 (by decide) ?_
        obtain ⟨eR, eH⟩ := K0 _ _ (Option.some.inj hf).symm
        subst eR; subst eH
        exact xs_iret d101_85 rt101
      · refine xs_icmp_ne (tgt := 84) d101_76 (by decide) (fun hp => absurd hp hc15) (fun _ => ?_)
        refine xs_iload_n d101_84 rfl ?_
        obtain ⟨eR, eH⟩ := K0 _ _ (Option.some.inj hf).symm
        subst eR; subst eH
        exact xs_iret d101_85 rt101
    · refine xs_icmp_lt (tgt := 31) d101_26 (by decide) (fun hp => absurd hp hc2) (fun _ => ?_)
      refine xs_iconst (v := -1) d101_29 (by decide) ?_
      obtain ⟨eR, eH⟩ := K0 _ _ (Option.some.inj hf).symm
      subst eR; subst eH
      exact xs_iret d101_30 rt101
noncomputable def f_B_step (h : xH) : Option (Int32 × xH) := f_B_step_e h
theorem f_B_step_ok {g : xG} {l : Launch} {d : Nat} {h : xH} {r : Int32} {h1 : xH} (hD : 5 ≤ d) (hf : f_B_step h = some (r, h1)) : xC g l d 101 [xr 11 (some 0)] h (some (xi r)) h1 :=
  xC_of (by decide) (Nat.le_of_ble_eq_true rfl) (f_B_step_e_ok hD hf (fun _ _ e => by cases e; exact ⟨rfl, rfl⟩))
theorem d102_0 : decode (xcode 102) 0 = .ok (.aload_n 0, 1) := by decide +kernel
theorem d102_1 : decode (xcode 102) 1 = .ok (.getfield 55, 3) := by decide +kernel
theorem d102_4 : decode (xcode 102) 4 = .ok (.getfield 121, 3) := by decide +kernel
theorem d102_7 : decode (xcode 102) 7 = .ok (.iload_n 1, 1) := by decide +kernel
theorem d102_8 : decode (xcode 102) 8 = .ok (.invokevirtual 193, 3) := by decide +kernel
theorem d102_11 : decode (xcode 102) 11 = .ok (.ifCond .ne 5, 3) := by decide +kernel
theorem d102_14 : decode (xcode 102) 14 = .ok (.iconst (-1), 1) := by decide +kernel
theorem d102_15 : decode (xcode 102) 15 = .ok (.ireturn, 1) := by decide +kernel
theorem d102_16 : decode (xcode 102) 16 = .ok (.aload_n 0, 1) := by decide +kernel
theorem d102_17 : decode (xcode 102) 17 = .ok (.getfield 70, 3) := by decide +kernel
theorem d102_20 : decode (xcode 102) 20 = .ok (.aload_n 0, 1) := by decide +kernel
theorem d102_21 : decode (xcode 102) 21 = .ok (.getfield 55, 3) := by decide +kernel
theorem d102_24 : decode (xcode 102) 24 = .ok (.getfield 121, 3) := by decide +kernel
theorem d102_27 : decode (xcode 102) 27 = .ok (.invokevirtual 180, 3) := by decide +kernel
theorem d102_30 : decode (xcode 102) 30 = .ok (.aload_n 0, 1) := by decide +kernel
theorem d102_31 : decode (xcode 102) 31 = .ok (.getfield 55, 3) := by decide +kernel
theorem d102_34 : decode (xcode 102) 34 = .ok (.getfield 121, 3) := by decide +kernel
theorem d102_37 : decode (xcode 102) 37 = .ok (.iload_n 1, 1) := by decide +kernel
theorem d102_38 : decode (xcode 102) 38 = .ok (.aload_n 0, 1) := by decide +kernel
theorem d102_39 : decode (xcode 102) 39 = .ok (.getfield 55, 3) := by decide +kernel
theorem d102_42 : decode (xcode 102) 42 = .ok (.getfield 114, 3) := by decide +kernel
theorem d102_45 : decode (xcode 102) 45 = .ok (.getfield 196, 3) := by decide +kernel
theorem d102_48 : decode (xcode 102) 48 = .ok (.invokevirtual 199, 3) := by decide +kernel
theorem d102_51 : decode (xcode 102) 51 = .ok (.aload_n 0, 1) := by decide +kernel
theorem d102_52 : decode (xcode 102) 52 = .ok (.getfield 55, 3) := by decide +kernel
theorem d102_55 : decode (xcode 102) 55 = .ok (.getfield 121, 3) := by decide +kernel
theorem d102_58 : decode (xcode 102) 58 = .ok (.getfield 203, 3) := by decide +kernel
theorem d102_61 : decode (xcode 102) 61 = .ok (.ireturn, 1) := by decide +kernel
noncomputable def f_B_take_e (v1 : Int32) (h : xH) : Option (Int32 × xH) :=
  (f_State_isLoose 0 v1 h).bind fun r1 =>
  if r1 = (0 : Int32) then (
  some (((-1 : Int32), h))) else (
  (f_Past_keep 0 h).bind fun h6 =>
  (f_State_lift 0 v1 (h6.1 8 1 0) h6).bind fun h9 =>
  some ((h9.1 6 0 0, h9)))
set_option maxHeartbeats 4000000 in
set_option maxRecDepth 100000 in
theorem f_B_take_e_ok {g : xG} {l : Launch} {d : Nat} {v1 : Int32} {h : xH} {o : (Int32 × xH)} {R : Option xV} {H' : xH} (hD : 3 ≤ d) (hf : f_B_take_e v1 h = some o) (K0 : ∀ (a : Int32) (h1 : xH), o = (a, h1) → R = some (xi a) ∧ H' = h1) : xEv g l d 102 0 [(0, xr 11 (some 0)), (1, xi v1)] [] h R H' := by
  unfold f_B_take_e at hf
  refine xs_aload_n d102_0 rfl ?_
  refine xe_getc (j := 0) d102_1 ky102 fl153 fk11_6 rfl ?_
  refine xe_getc (j := 0) d102_4 ky102 fl98 fk4_1 rfl ?_
  refine xs_iload_n d102_7 rfl ?_
  obtain ⟨r1, hc2, hf⟩ := lk_b hf
  refine xe_callv1 (as := [xi v1]) (st := []) (h2 := h) (d2 := d - 1) d102_8 ky102 ml93 st49 (by decide) cn49 rfl na49 (Nat.le_of_ble_eq_true rfl) (by omega) (f_State_isLoose_ok (by omega) hc2) ?_
  rcases lk_if hf with ⟨hc3, hf⟩ | ⟨hc3, hf⟩
  · refine xs_if_ne (tgt := 16) d102_11 (by decide) (fun _ => ?_) (fun hn => absurd hc3 hn)
    refine xs_iconst (v := -1) d102_14 (by decide) ?_
    obtain ⟨eR, eH⟩ := K0 _ _ (Option.some.inj hf).symm
    subst eR; subst eH
    exact xs_iret d102_15 rt102
  · refine xs_if_ne (tgt := 16) d102_11 (by decide) (fun hp => absurd hp hc3) (fun _ => ?_)
    refine xs_aload_n d102_16 rfl ?_
    refine xe_getc (j := 0) d102_17 ky102 fl156 fk11_9 rfl ?_
    refine xs_aload_n d102_20 rfl ?_
    refine xe_getc (j := 0) d102_21 ky102 fl153 fk11_6 rfl ?_
    refine xe_getc (j := 0) d102_24 ky102 fl98 fk4_1 rfl ?_
    obtain ⟨h6, hc5, hf⟩ := lk_b hf
    refine xe_callv0 (as := [xr 6 (some 0)]) (st := []) (h2 := h6) (d2 := d - 1) d102_27 ky102 ml64 st6 (by decide) cn6 rfl na6 (Nat.le_of_ble_eq_true rfl) (by omega) (f_Past_keep_ok (by omega) hc5) ?_
    refine xs_aload_n d102_30 rfl ?_
    refine xe_getc (j := 0) d102_31 ky102 fl153 fk11_6 rfl ?_
    refine xe_getc (j := 0) d102_34 ky102 fl98 fk4_1 rfl ?_
    refine xs_iload_n d102_37 rfl ?_
    refine xs_aload_n d102_38 rfl ?_
    refine xe_getc (j := 0) d102_39 ky102 fl153 fk11_6 rfl ?_
    refine xe_getc (j := 0) d102_42 ky102 fl96 fk4_0 rfl ?_
    refine xe_geti d102_45 ky102 fl24 fk8_1 ?_
    obtain ⟨h9, hc8, hf⟩ := lk_b hf
    refine xe_callv0 (as := [xi v1, xi (h6.1 8 1 0)]) (st := []) (h2 := h9) (d2 := d - 1) d102_48 ky102 ml94 st55 (by decide) cn55 rfl na55 (Nat.le_of_ble_eq_true rfl) (by omega) (f_State_lift_ok (by omega) hc8) ?_
    refine xs_aload_n d102_51 rfl ?_
    refine xe_getc (j := 0) d102_52 ky102 fl153 fk11_6 rfl ?_
    refine xe_getc (j := 0) d102_55 ky102 fl98 fk4_1 rfl ?_
    refine xe_geti d102_58 ky102 fl70 fk6_0 ?_
    obtain ⟨eR, eH⟩ := K0 _ _ (Option.some.inj hf).symm
    subst eR; subst eH
    exact xs_iret d102_61 rt102
noncomputable def f_B_take (v1 : Int32) (h : xH) : Option (Int32 × xH) := f_B_take_e v1 h
theorem f_B_take_ok {g : xG} {l : Launch} {d : Nat} {v1 : Int32} {h : xH} {r : Int32} {h1 : xH} (hD : 3 ≤ d) (hf : f_B_take v1 h = some (r, h1)) : xC g l d 102 [xr 11 (some 0), xi v1] h (some (xi r)) h1 :=
  xC_of (by decide) (Nat.le_of_ble_eq_true rfl) (f_B_take_e_ok hD hf (fun _ _ e => by cases e; exact ⟨rfl, rfl⟩))
theorem d103_0 : decode (xcode 103) 0 = .ok (.aload_n 0, 1) := by decide +kernel
theorem d103_1 : decode (xcode 103) 1 = .ok (.getfield 55, 3) := by decide +kernel
theorem d103_4 : decode (xcode 103) 4 = .ok (.getfield 114, 3) := by decide +kernel
theorem d103_7 : decode (xcode 103) 7 = .ok (.getfield 173, 3) := by decide +kernel
theorem d103_10 : decode (xcode 103) 10 = .ok (.ifCond .eq 14, 3) := by decide +kernel
theorem d103_13 : decode (xcode 103) 13 = .ok (.iload_n 1, 1) := by decide +kernel
theorem d103_14 : decode (xcode 103) 14 = .ok (.iconst 1, 1) := by decide +kernel
theorem d103_15 : decode (xcode 103) 15 = .ok (.if_icmp .lt 9, 3) := by decide +kernel
theorem d103_18 : decode (xcode 103) 18 = .ok (.iload_n 1, 1) := by decide +kernel
theorem d103_19 : decode (xcode 103) 19 = .ok (.bipush 60, 2) := by decide +kernel
theorem d103_21 : decode (xcode 103) 21 = .ok (.if_icmp .le 5, 3) := by decide +kernel
theorem d103_24 : decode (xcode 103) 24 = .ok (.iconst (-1), 1) := by decide +kernel
theorem d103_25 : decode (xcode 103) 25 = .ok (.ireturn, 1) := by decide +kernel
theorem d103_26 : decode (xcode 103) 26 = .ok (.aload_n 0, 1) := by decide +kernel
theorem d103_27 : decode (xcode 103) 27 = .ok (.getfield 55, 3) := by decide +kernel
theorem d103_30 : decode (xcode 103) 30 = .ok (.getfield 121, 3) := by decide +kernel
theorem d103_33 : decode (xcode 103) 33 = .ok (.getfield 203, 3) := by decide +kernel
theorem d103_36 : decode (xcode 103) 36 = .ok (.iload_n 1, 1) := by decide +kernel
theorem d103_37 : decode (xcode 103) 37 = .ok (.iadd, 1) := by decide +kernel
theorem d103_38 : decode (xcode 103) 38 = .ok (.sipush 9999, 3) := by decide +kernel
theorem d103_41 : decode (xcode 103) 41 = .ok (.if_icmp .le 5, 3) := by decide +kernel
theorem d103_44 : decode (xcode 103) 44 = .ok (.iconst (-1), 1) := by decide +kernel
theorem d103_45 : decode (xcode 103) 45 = .ok (.ireturn, 1) := by decide +kernel
theorem d103_46 : decode (xcode 103) 46 = .ok (.aload_n 0, 1) := by decide +kernel
theorem d103_47 : decode (xcode 103) 47 = .ok (.getfield 70, 3) := by decide +kernel
theorem d103_50 : decode (xcode 103) 50 = .ok (.aload_n 0, 1) := by decide +kernel
theorem d103_51 : decode (xcode 103) 51 = .ok (.getfield 55, 3) := by decide +kernel
theorem d103_54 : decode (xcode 103) 54 = .ok (.getfield 121, 3) := by decide +kernel
theorem d103_57 : decode (xcode 103) 57 = .ok (.invokevirtual 180, 3) := by decide +kernel
theorem d103_60 : decode (xcode 103) 60 = .ok (.aload_n 0, 1) := by decide +kernel
theorem d103_61 : decode (xcode 103) 61 = .ok (.getfield 55, 3) := by decide +kernel
theorem d103_64 : decode (xcode 103) 64 = .ok (.getfield 121, 3) := by decide +kernel
theorem d103_67 : decode (xcode 103) 67 = .ok (.iload_n 1, 1) := by decide +kernel
theorem d103_68 : decode (xcode 103) 68 = .ok (.invokevirtual 206, 3) := by decide +kernel
theorem d103_71 : decode (xcode 103) 71 = .ok (.aload_n 0, 1) := by decide +kernel
theorem d103_72 : decode (xcode 103) 72 = .ok (.getfield 55, 3) := by decide +kernel
theorem d103_75 : decode (xcode 103) 75 = .ok (.getfield 121, 3) := by decide +kernel
theorem d103_78 : decode (xcode 103) 78 = .ok (.getfield 203, 3) := by decide +kernel
theorem d103_81 : decode (xcode 103) 81 = .ok (.ireturn, 1) := by decide +kernel
noncomputable def f_B_await_e (v1 : Int32) (h : xH) : Option (Int32 × xH) :=
  if (h.1 8 0 0) = (0 : Int32) then (
  some (((-1 : Int32), h))) else (
  if v1 < (1 : Int32) then (
  some (((-1 : Int32), h))) else (
  if v1 ≤ (60 : Int32) then (
  if ((h.1 6 0 0) + v1) ≤ (9999 : Int32) then (
  (f_Past_keep 0 h).bind fun h7 =>
  (f_State_pass 0 v1 h7).bind fun h10 =>
  some ((h10.1 6 0 0, h10))) else (
  some (((-1 : Int32), h)))) else (
  some (((-1 : Int32), h)))))
set_option maxHeartbeats 4000000 in
set_option maxRecDepth 100000 in
theorem f_B_await_e_ok {g : xG} {l : Launch} {d : Nat} {v1 : Int32} {h : xH} {o : (Int32 × xH)} {R : Option xV} {H' : xH} (hD : 3 ≤ d) (hf : f_B_await_e v1 h = some o) (K0 : ∀ (a : Int32) (h1 : xH), o = (a, h1) → R = some (xi a) ∧ H' = h1) : xEv g l d 103 0 [(0, xr 11 (some 0)), (1, xi v1)] [] h R H' := by
  unfold f_B_await_e at hf
  refine xs_aload_n d103_0 rfl ?_
  refine xe_getc (j := 0) d103_1 ky103 fl153 fk11_6 rfl ?_
  refine xe_getc (j := 0) d103_4 ky103 fl96 fk4_0 rfl ?_
  refine xe_geti d103_7 ky103 fl19 fk8_0 ?_
  rcases lk_if hf with ⟨hc1, hf⟩ | ⟨hc1, hf⟩
  · refine xs_if_eq (tgt := 24) d103_10 (by decide) (fun _ => ?_) (fun hn => absurd hc1 hn)
    refine xs_iconst (v := -1) d103_24 (by decide) ?_
    obtain ⟨eR, eH⟩ := K0 _ _ (Option.some.inj hf).symm
    subst eR; subst eH
    exact xs_iret d103_25 rt103
  · refine xs_if_eq (tgt := 24) d103_10 (by decide) (fun hp => absurd hp hc1) (fun _ => ?_)
    refine xs_iload_n d103_13 rfl ?_
    refine xs_iconst (v := 1) d103_14 (by decide) ?_
    rcases lk_if hf with ⟨hc2, hf⟩ | ⟨hc2, hf⟩
    · refine xs_icmp_lt (tgt := 24) d103_15 (by decide) (fun _ => ?_) (fun hn => absurd hc2 hn)
      refine xs_iconst (v := -1) d103_24 (by decide) ?_
      obtain ⟨eR, eH⟩ := K0 _ _ (Option.some.inj hf).symm
      subst eR; subst eH
      exact xs_iret d103_25 rt103
    · refine xs_icmp_lt (tgt := 24) d103_15 (by decide) (fun hp => absurd hp hc2) (fun _ => ?_)
      refine xs_iload_n d103_18 rfl ?_
      refine xs_bipush (v := 60) d103_19 (by decide) ?_
      rcases lk_if hf with ⟨hc3, hf⟩ | ⟨hc3, hf⟩
      · refine xs_icmp_le (tgt := 26) d103_21 (by decide) (fun _ => ?_) (fun hn => absurd hc3 hn)
        refine xs_aload_n d103_26 rfl ?_
        refine xe_getc (j := 0) d103_27 ky103 fl153 fk11_6 rfl ?_
        refine xe_getc (j := 0) d103_30 ky103 fl98 fk4_1 rfl ?_
        refine xe_geti d103_33 ky103 fl70 fk6_0 ?_
        refine xs_iload_n d103_36 rfl ?_
        refine xs_iadd d103_37 ?_
        refine xs_sipush (v := 9999) d103_38 (by decide) ?_
        rcases lk_if hf with ⟨hc4, hf⟩ | ⟨hc4, hf⟩
        · refine xs_icmp_le (tgt := 46) d103_41 (by decide) (fun _ => ?_) (fun hn => absurd hc4 hn)
          refine xs_aload_n d103_46 rfl ?_
          refine xe_getc (j := 0) d103_47 ky103 fl156 fk11_9 rfl ?_
          refine xs_aload_n d103_50 rfl ?_
          refine xe_getc (j := 0) d103_51 ky103 fl153 fk11_6 rfl ?_
          refine xe_getc (j := 0) d103_54 ky103 fl98 fk4_1 rfl ?_
          obtain ⟨h7, hc6, hf⟩ := lk_b hf
          refine xe_callv0 (as := [xr 6 (some 0)]) (st := []) (h2 := h7) (d2 := d - 1) d103_57 ky103 ml64 st6 (by decide) cn6 rfl na6 (Nat.le_of_ble_eq_true rfl) (by omega) (f_Past_keep_ok (by omega) hc6) ?_
          refine xs_aload_n d103_60 rfl ?_
          refine xe_getc (j := 0) d103_61 ky103 fl153 fk11_6 rfl ?_
          refine xe_getc (j := 0) d103_64 ky103 fl98 fk4_1 rfl ?_
          refine xs_iload_n d103_67 rfl ?_
          obtain ⟨h10, hc9, hf⟩ := lk_b hf
          refine xe_callv0 (as := [xi v1]) (st := []) (h2 := h10) (d2 := d - 1) d103_68 ky103 ml96 st54 (by decide) cn54 rfl na54 (Nat.le_of_ble_eq_true rfl) (by omega) (f_State_pass_ok (by omega) hc9) ?_
          refine xs_aload_n d103_71 rfl ?_
          refine xe_getc (j := 0) d103_72 ky103 fl153 fk11_6 rfl ?_
          refine xe_getc (j := 0) d103_75 ky103 fl98 fk4_1 rfl ?_
          refine xe_geti d103_78 ky103 fl70 fk6_0 ?_
          obtain ⟨eR, eH⟩ := K0 _ _ (Option.some.inj hf).symm
          subst eR; subst eH
          exact xs_iret d103_81 rt103
        · refine xs_icmp_le (tgt := 46) d103_41 (by decide) (fun hp => absurd hp hc4) (fun _ => ?_)
          refine xs_iconst (v := -1) d103_44 (by decide) ?_
          obtain ⟨eR, eH⟩ := K0 _ _ (Option.some.inj hf).symm
          subst eR; subst eH
          exact xs_iret d103_45 rt103
      · refine xs_icmp_le (tgt := 26) d103_21 (by decide) (fun hp => absurd hp hc3) (fun _ => ?_)
        refine xs_iconst (v := -1) d103_24 (by decide) ?_
        obtain ⟨eR, eH⟩ := K0 _ _ (Option.some.inj hf).symm
        subst eR; subst eH
        exact xs_iret d103_25 rt103
noncomputable def f_B_await (v1 : Int32) (h : xH) : Option (Int32 × xH) := f_B_await_e v1 h
theorem f_B_await_ok {g : xG} {l : Launch} {d : Nat} {v1 : Int32} {h : xH} {r : Int32} {h1 : xH} (hD : 3 ≤ d) (hf : f_B_await v1 h = some (r, h1)) : xC g l d 103 [xr 11 (some 0), xi v1] h (some (xi r)) h1 :=
  xC_of (by decide) (Nat.le_of_ble_eq_true rfl) (f_B_await_e_ok hD hf (fun _ _ e => by cases e; exact ⟨rfl, rfl⟩))
theorem d104_0 : decode (xcode 104) 0 = .ok (.iload_n 1, 1) := by decide +kernel
theorem d104_1 : decode (xcode 104) 1 = .ok (.iload_n 2, 1) := by decide +kernel
theorem d104_2 : decode (xcode 104) 2 = .ok (.if_icmp .eq 31, 3) := by decide +kernel
theorem d104_5 : decode (xcode 104) 5 = .ok (.aload_n 0, 1) := by decide +kernel
theorem d104_6 : decode (xcode 104) 6 = .ok (.getfield 55, 3) := by decide +kernel
theorem d104_9 : decode (xcode 104) 9 = .ok (.getfield 121, 3) := by decide +kernel
theorem d104_12 : decode (xcode 104) 12 = .ok (.iload_n 1, 1) := by decide +kernel
theorem d104_13 : decode (xcode 104) 13 = .ok (.invokevirtual 209, 3) := by decide +kernel
theorem d104_16 : decode (xcode 104) 16 = .ok (.ifCond .eq 17, 3) := by decide +kernel
theorem d104_19 : decode (xcode 104) 19 = .ok (.aload_n 0, 1) := by decide +kernel
theorem d104_20 : decode (xcode 104) 20 = .ok (.getfield 55, 3) := by decide +kernel
theorem d104_23 : decode (xcode 104) 23 = .ok (.getfield 121, 3) := by decide +kernel
theorem d104_26 : decode (xcode 104) 26 = .ok (.iload_n 2, 1) := by decide +kernel
theorem d104_27 : decode (xcode 104) 27 = .ok (.invokevirtual 209, 3) := by decide +kernel
theorem d104_30 : decode (xcode 104) 30 = .ok (.ifCond .ne 5, 3) := by decide +kernel
theorem d104_33 : decode (xcode 104) 33 = .ok (.iconst (-1), 1) := by decide +kernel
theorem d104_34 : decode (xcode 104) 34 = .ok (.ireturn, 1) := by decide +kernel
theorem d104_35 : decode (xcode 104) 35 = .ok (.aload_n 0, 1) := by decide +kernel
theorem d104_36 : decode (xcode 104) 36 = .ok (.getfield 70, 3) := by decide +kernel
theorem d104_39 : decode (xcode 104) 39 = .ok (.aload_n 0, 1) := by decide +kernel
theorem d104_40 : decode (xcode 104) 40 = .ok (.getfield 55, 3) := by decide +kernel
theorem d104_43 : decode (xcode 104) 43 = .ok (.getfield 121, 3) := by decide +kernel
theorem d104_46 : decode (xcode 104) 46 = .ok (.invokevirtual 180, 3) := by decide +kernel
theorem d104_49 : decode (xcode 104) 49 = .ok (.aload_n 0, 1) := by decide +kernel
theorem d104_50 : decode (xcode 104) 50 = .ok (.getfield 55, 3) := by decide +kernel
theorem d104_53 : decode (xcode 104) 53 = .ok (.getfield 121, 3) := by decide +kernel
theorem d104_56 : decode (xcode 104) 56 = .ok (.getfield 164, 3) := by decide +kernel
theorem d104_59 : decode (xcode 104) 59 = .ok (.iload_n 1, 1) := by decide +kernel
theorem d104_60 : decode (xcode 104) 60 = .ok (.dup2, 1) := by decide +kernel
theorem d104_61 : decode (xcode 104) 61 = .ok (.iaload, 1) := by decide +kernel
theorem d104_62 : decode (xcode 104) 62 = .ok (.iconst 1, 1) := by decide +kernel
theorem d104_63 : decode (xcode 104) 63 = .ok (.iload_n 2, 1) := by decide +kernel
theorem d104_64 : decode (xcode 104) 64 = .ok (.ishl, 1) := by decide +kernel
theorem d104_65 : decode (xcode 104) 65 = .ok (.ixor, 1) := by decide +kernel
theorem d104_66 : decode (xcode 104) 66 = .ok (.iastore, 1) := by decide +kernel
theorem d104_67 : decode (xcode 104) 67 = .ok (.aload_n 0, 1) := by decide +kernel
theorem d104_68 : decode (xcode 104) 68 = .ok (.getfield 55, 3) := by decide +kernel
theorem d104_71 : decode (xcode 104) 71 = .ok (.getfield 121, 3) := by decide +kernel
theorem d104_74 : decode (xcode 104) 74 = .ok (.getfield 164, 3) := by decide +kernel
theorem d104_77 : decode (xcode 104) 77 = .ok (.iload_n 1, 1) := by decide +kernel
theorem d104_78 : decode (xcode 104) 78 = .ok (.iaload, 1) := by decide +kernel
theorem d104_79 : decode (xcode 104) 79 = .ok (.iload_n 2, 1) := by decide +kernel
theorem d104_80 : decode (xcode 104) 80 = .ok (.ishr, 1) := by decide +kernel
theorem d104_81 : decode (xcode 104) 81 = .ok (.iconst 1, 1) := by decide +kernel
theorem d104_82 : decode (xcode 104) 82 = .ok (.iand, 1) := by decide +kernel
theorem d104_83 : decode (xcode 104) 83 = .ok (.ireturn, 1) := by decide +kernel
noncomputable def f_B_lay_e (v1 : Int32) (v2 : Int32) (h : xH) : Option (Int32 × xH) :=
  if v1 = v2 then (
  some (((-1 : Int32), h))) else (
  (f_State_isIn 0 v1 h).bind fun r2 =>
  if r2 = (0 : Int32) then (
  some (((-1 : Int32), h))) else (
  (f_State_isIn 0 v2 h).bind fun r5 =>
  if r5 = (0 : Int32) then (
  some (((-1 : Int32), h))) else (
  (f_Past_keep 0 h).bind fun h10 =>
  if xib v1 8 then (
  if xib v1 8 then (
  xlet (xsA h10 30 0 (upd (h10.2.2.2.1 30 0) (v1).toNatClampNeg ((h10.2.2.2.1 30 0 (v1).toNatClampNeg) ^^^ ((1 : Int32) <<< (v2 &&& 31))))) fun h13 =>
  if xib v1 8 then (
  some ((((h13.2.2.2.1 30 0 (v1).toNatClampNeg) >>> (v2 &&& 31)) &&& (1 : Int32), h13))) else none) else none) else none)))
set_option maxHeartbeats 4000000 in
set_option maxRecDepth 100000 in
theorem f_B_lay_e_ok {g : xG} {l : Launch} {d : Nat} {v1 : Int32} {v2 : Int32} {h : xH} {o : (Int32 × xH)} {R : Option xV} {H' : xH} (hD : 3 ≤ d) (hf : f_B_lay_e v1 v2 h = some o) (K0 : ∀ (a : Int32) (h1 : xH), o = (a, h1) → R = some (xi a) ∧ H' = h1) : xEv g l d 104 0 [(0, xr 11 (some 0)), (1, xi v1), (2, xi v2)] [] h R H' := by
  unfold f_B_lay_e at hf
  refine xs_iload_n d104_0 rfl ?_
  refine xs_iload_n d104_1 rfl ?_
  rcases lk_if hf with ⟨hc1, hf⟩ | ⟨hc1, hf⟩
  · refine xs_icmp_eq (tgt := 33) d104_2 (by decide) (fun _ => ?_) (fun hn => absurd hc1 hn)
    refine xs_iconst (v := -1) d104_33 (by decide) ?_
    obtain ⟨eR, eH⟩ := K0 _ _ (Option.some.inj hf).symm
    subst eR; subst eH
    exact xs_iret d104_34 rt104
  · refine xs_icmp_eq (tgt := 33) d104_2 (by decide) (fun hp => absurd hp hc1) (fun _ => ?_)
    refine xs_aload_n d104_5 rfl ?_
    refine xe_getc (j := 0) d104_6 ky104 fl153 fk11_6 rfl ?_
    refine xe_getc (j := 0) d104_9 ky104 fl98 fk4_1 rfl ?_
    refine xs_iload_n d104_12 rfl ?_
    obtain ⟨r2, hc3, hf⟩ := lk_b hf
    refine xe_callv1 (as := [xi v1]) (st := []) (h2 := h) (d2 := d - 1) d104_13 ky104 ml98 st47 (by decide) cn47 rfl na47 (Nat.le_of_ble_eq_true rfl) (by omega) (f_State_isIn_ok (by omega) hc3) ?_
    rcases lk_if hf with ⟨hc4, hf⟩ | ⟨hc4, hf⟩
    · refine xs_if_eq (tgt := 33) d104_16 (by decide) (fun _ => ?_) (fun hn => absurd hc4 hn)
      refine xs_iconst (v := -1) d104_33 (by decide) ?_
      obtain ⟨eR, eH⟩ := K0 _ _ (Option.some.inj hf).symm
      subst eR; subst eH
      exact xs_iret d104_34 rt104
    · refine xs_if_eq (tgt := 33) d104_16 (by decide) (fun hp => absurd hp hc4) (fun _ => ?_)
      refine xs_aload_n d104_19 rfl ?_
      refine xe_getc (j := 0) d104_20 ky104 fl153 fk11_6 rfl ?_
      refine xe_getc (j := 0) d104_23 ky104 fl98 fk4_1 rfl ?_
      refine xs_iload_n d104_26 rfl ?_
      obtain ⟨r5, hc6, hf⟩ := lk_b hf
      refine xe_callv1 (as := [xi v2]) (st := []) (h2 := h) (d2 := d - 1) d104_27 ky104 ml98 st47 (by decide) cn47 rfl na47 (Nat.le_of_ble_eq_true rfl) (by omega) (f_State_isIn_ok (by omega) hc6) ?_
      rcases lk_if hf with ⟨hc7, hf⟩ | ⟨hc7, hf⟩
      · refine xs_if_ne (tgt := 35) d104_30 (by decide) (fun _ => ?_) (fun hn => absurd hc7 hn)
        refine xs_iconst (v := -1) d104_33 (by decide) ?_
        obtain ⟨eR, eH⟩ := K0 _ _ (Option.some.inj hf).symm
        subst eR; subst eH
        exact xs_iret d104_34 rt104
      · refine xs_if_ne (tgt := 35) d104_30 (by decide) (fun hp => absurd hp hc7) (fun _ => ?_)
        refine xs_aload_n d104_35 rfl ?_
        refine xe_getc (j := 0) d104_36 ky104 fl156 fk11_9 rfl ?_
        refine xs_aload_n d104_39 rfl ?_
        refine xe_getc (j := 0) d104_40 ky104 fl153 fk11_6 rfl ?_
        refine xe_getc (j := 0) d104_43 ky104 fl98 fk4_1 rfl ?_
        obtain ⟨h10, hc9, hf⟩ := lk_b hf
        refine xe_callv0 (as := [xr 6 (some 0)]) (st := []) (h2 := h10) (d2 := d - 1) d104_46 ky104 ml64 st6 (by decide) cn6 rfl na6 (Nat.le_of_ble_eq_true rfl) (by omega) (f_Past_keep_ok (by omega) hc9) ?_
        refine xs_aload_n d104_49 rfl ?_
        refine xe_getc (j := 0) d104_50 ky104 fl153 fk11_6 rfl ?_
        refine xe_getc (j := 0) d104_53 ky104 fl98 fk4_1 rfl ?_
        refine xe_getc (j := 0) d104_56 ky104 fl86 fk6_5 rfl ?_
        refine xs_iload_n d104_59 rfl ?_
        refine xs_dup2 d104_60 rfl rfl ?_
        obtain ⟨hin11, hf⟩ := lk_g hf
        refine xe_iald d104_61 (by decide) ak30 hin11 ?_
        refine xs_iconst (v := 1) d104_62 (by decide) ?_
        refine xs_iload_n d104_63 rfl ?_
        refine xs_ishl d104_64 ?_
        refine xs_ixor d104_65 ?_
        obtain ⟨hin12, hf⟩ := lk_g hf
        obtain ⟨h13, eh13, hf⟩ := lk_let hf
        refine xe_iast d104_66 (by decide) ak30 hin12  eh13 ?_
        refine xs_aload_n d104_67 rfl ?_
        refine xe_getc (j := 0) d104_68 ky104 fl153 fk11_6 rfl ?_
        refine xe_getc (j := 0) d104_71 ky104 fl98 fk4_1 rfl ?_
        refine xe_getc (j := 0) d104_74 ky104 fl86 fk6_5 rfl ?_
        refine xs_iload_n d104_77 rfl ?_
        obtain ⟨hin14, hf⟩ := lk_g hf
        refine xe_iald d104_78 (by decide) ak30 hin14 ?_
        refine xs_iload_n d104_79 rfl ?_
        refine xs_ishr d104_80 ?_
        refine xs_iconst (v := 1) d104_81 (by decide) ?_
        refine xs_iand d104_82 ?_
        obtain ⟨eR, eH⟩ := K0 _ _ (Option.some.inj hf).symm
        subst eR; subst eH
        exact xs_iret d104_83 rt104
noncomputable def f_B_lay (v1 : Int32) (v2 : Int32) (h : xH) : Option (Int32 × xH) := f_B_lay_e v1 v2 h
theorem f_B_lay_ok {g : xG} {l : Launch} {d : Nat} {v1 : Int32} {v2 : Int32} {h : xH} {r : Int32} {h1 : xH} (hD : 3 ≤ d) (hf : f_B_lay v1 v2 h = some (r, h1)) : xC g l d 104 [xr 11 (some 0), xi v1, xi v2] h (some (xi r)) h1 :=
  xC_of (by decide) (Nat.le_of_ble_eq_true rfl) (f_B_lay_e_ok hD hf (fun _ _ e => by cases e; exact ⟨rfl, rfl⟩))
theorem d105_0 : decode (xcode 105) 0 = .ok (.iload_n 2, 1) := by decide +kernel
theorem d105_1 : decode (xcode 105) 1 = .ok (.iconst 1, 1) := by decide +kernel
theorem d105_2 : decode (xcode 105) 2 = .ok (.if_icmp .lt 23, 3) := by decide +kernel
theorem d105_5 : decode (xcode 105) 5 = .ok (.iload_n 2, 1) := by decide +kernel
theorem d105_6 : decode (xcode 105) 6 = .ok (.bipush 20, 2) := by decide +kernel
theorem d105_8 : decode (xcode 105) 8 = .ok (.if_icmp .gt 17, 3) := by decide +kernel
theorem d105_11 : decode (xcode 105) 11 = .ok (.aload_n 0, 1) := by decide +kernel
theorem d105_12 : decode (xcode 105) 12 = .ok (.getfield 55, 3) := by decide +kernel
theorem d105_15 : decode (xcode 105) 15 = .ok (.getfield 121, 3) := by decide +kernel
theorem d105_18 : decode (xcode 105) 18 = .ok (.iload_n 1, 1) := by decide +kernel
theorem d105_19 : decode (xcode 105) 19 = .ok (.invokevirtual 209, 3) := by decide +kernel
theorem d105_22 : decode (xcode 105) 22 = .ok (.ifCond .ne 5, 3) := by decide +kernel
theorem d105_25 : decode (xcode 105) 25 = .ok (.iconst (-1), 1) := by decide +kernel
theorem d105_26 : decode (xcode 105) 26 = .ok (.ireturn, 1) := by decide +kernel
theorem d105_27 : decode (xcode 105) 27 = .ok (.aload_n 0, 1) := by decide +kernel
theorem d105_28 : decode (xcode 105) 28 = .ok (.getfield 55, 3) := by decide +kernel
theorem d105_31 : decode (xcode 105) 31 = .ok (.getfield 121, 3) := by decide +kernel
theorem d105_34 : decode (xcode 105) 34 = .ok (.getfield 148, 3) := by decide +kernel
theorem d105_37 : decode (xcode 105) 37 = .ok (.iload_n 1, 1) := by decide +kernel
theorem d105_38 : decode (xcode 105) 38 = .ok (.iaload, 1) := by decide +kernel
theorem d105_39 : decode (xcode 105) 39 = .ok (.istore_n 3, 1) := by decide +kernel
theorem d105_40 : decode (xcode 105) 40 = .ok (.iload_n 3, 1) := by decide +kernel
theorem d105_41 : decode (xcode 105) 41 = .ok (.iload_n 2, 1) := by decide +kernel
theorem d105_42 : decode (xcode 105) 42 = .ok (.if_icmp .ne 5, 3) := by decide +kernel
theorem d105_45 : decode (xcode 105) 45 = .ok (.iconst (-1), 1) := by decide +kernel
theorem d105_46 : decode (xcode 105) 46 = .ok (.ireturn, 1) := by decide +kernel
theorem d105_47 : decode (xcode 105) 47 = .ok (.aload_n 0, 1) := by decide +kernel
theorem d105_48 : decode (xcode 105) 48 = .ok (.getfield 70, 3) := by decide +kernel
theorem d105_51 : decode (xcode 105) 51 = .ok (.aload_n 0, 1) := by decide +kernel
theorem d105_52 : decode (xcode 105) 52 = .ok (.getfield 55, 3) := by decide +kernel
theorem d105_55 : decode (xcode 105) 55 = .ok (.getfield 121, 3) := by decide +kernel
theorem d105_58 : decode (xcode 105) 58 = .ok (.invokevirtual 180, 3) := by decide +kernel
theorem d105_61 : decode (xcode 105) 61 = .ok (.aload_n 0, 1) := by decide +kernel
theorem d105_62 : decode (xcode 105) 62 = .ok (.getfield 55, 3) := by decide +kernel
theorem d105_65 : decode (xcode 105) 65 = .ok (.getfield 121, 3) := by decide +kernel
theorem d105_68 : decode (xcode 105) 68 = .ok (.getfield 148, 3) := by decide +kernel
theorem d105_71 : decode (xcode 105) 71 = .ok (.iload_n 1, 1) := by decide +kernel
theorem d105_72 : decode (xcode 105) 72 = .ok (.iload_n 2, 1) := by decide +kernel
theorem d105_73 : decode (xcode 105) 73 = .ok (.iastore, 1) := by decide +kernel
theorem d105_74 : decode (xcode 105) 74 = .ok (.iload_n 3, 1) := by decide +kernel
theorem d105_75 : decode (xcode 105) 75 = .ok (.ireturn, 1) := by decide +kernel
noncomputable def f_B_lighten_e (v1 : Int32) (v2 : Int32) (h : xH) : Option (Int32 × xH) :=
  if v2 < (1 : Int32) then (
  some (((-1 : Int32), h))) else (
  if (20 : Int32) < v2 then (
  some (((-1 : Int32), h))) else (
  (f_State_isIn 0 v1 h).bind fun r3 =>
  if r3 = (0 : Int32) then (
  some (((-1 : Int32), h))) else (
  if xib v1 8 then (
  xlet (h.2.2.2.1 31 0 (v1).toNatClampNeg) fun v3_7 =>
  if v3_7 = v2 then (
  some (((-1 : Int32), h))) else (
  (f_Past_keep 0 h).bind fun h11 =>
  if xib v1 8 then (
  xlet (xsA h11 31 0 (upd (h11.2.2.2.1 31 0) (v1).toNatClampNeg v2)) fun h13 =>
  some ((v3_7, h13))) else none)) else none)))
set_option maxHeartbeats 4000000 in
set_option maxRecDepth 100000 in
theorem f_B_lighten_e_ok {g : xG} {l : Launch} {d : Nat} {v1 : Int32} {v2 : Int32} {h : xH} {o : (Int32 × xH)} {R : Option xV} {H' : xH} (hD : 3 ≤ d) (hf : f_B_lighten_e v1 v2 h = some o) (K0 : ∀ (a : Int32) (h1 : xH), o = (a, h1) → R = some (xi a) ∧ H' = h1) : xEv g l d 105 0 [(0, xr 11 (some 0)), (1, xi v1), (2, xi v2)] [] h R H' := by
  unfold f_B_lighten_e at hf
  refine xs_iload_n d105_0 rfl ?_
  refine xs_iconst (v := 1) d105_1 (by decide) ?_
  rcases lk_if hf with ⟨hc1, hf⟩ | ⟨hc1, hf⟩
  · refine xs_icmp_lt (tgt := 25) d105_2 (by decide) (fun _ => ?_) (fun hn => absurd hc1 hn)
    refine xs_iconst (v := -1) d105_25 (by decide) ?_
    obtain ⟨eR, eH⟩ := K0 _ _ (Option.some.inj hf).symm
    subst eR; subst eH
    exact xs_iret d105_26 rt105
  · refine xs_icmp_lt (tgt := 25) d105_2 (by decide) (fun hp => absurd hp hc1) (fun _ => ?_)
    refine xs_iload_n d105_5 rfl ?_
    refine xs_bipush (v := 20) d105_6 (by decide) ?_
    rcases lk_if hf with ⟨hc2, hf⟩ | ⟨hc2, hf⟩
    · refine xs_icmp_gt (tgt := 25) d105_8 (by decide) (fun _ => ?_) (fun hn => absurd hc2 hn)
      refine xs_iconst (v := -1) d105_25 (by decide) ?_
      obtain ⟨eR, eH⟩ := K0 _ _ (Option.some.inj hf).symm
      subst eR; subst eH
      exact xs_iret d105_26 rt105
    · refine xs_icmp_gt (tgt := 25) d105_8 (by decide) (fun hp => absurd hp hc2) (fun _ => ?_)
      refine xs_aload_n d105_11 rfl ?_
      refine xe_getc (j := 0) d105_12 ky105 fl153 fk11_6 rfl ?_
      refine xe_getc (j := 0) d105_15 ky105 fl98 fk4_1 rfl ?_
      refine xs_iload_n d105_18 rfl ?_
      obtain ⟨r3, hc4, hf⟩ := lk_b hf
      refine xe_callv1 (as := [xi v1]) (st := []) (h2 := h) (d2 := d - 1) d105_19 ky105 ml98 st47 (by decide) cn47 rfl na47 (Nat.le_of_ble_eq_true rfl) (by omega) (f_State_isIn_ok (by omega) hc4) ?_
      rcases lk_if hf with ⟨hc5, hf⟩ | ⟨hc5, hf⟩
      · refine xs_if_ne (tgt := 27) d105_22 (by decide) (fun _ => ?_) (fun hn => absurd hc5 hn)
        refine xs_iconst (v := -1) d105_25 (by decide) ?_
        obtain ⟨eR, eH⟩ := K0 _ _ (Option.some.inj hf).symm
        subst eR; subst eH
        exact xs_iret d105_26 rt105
      · refine xs_if_ne (tgt := 27) d105_22 (by decide) (fun hp => absurd hp hc5) (fun _ => ?_)
        refine xs_aload_n d105_27 rfl ?_
        refine xe_getc (j := 0) d105_28 ky105 fl153 fk11_6 rfl ?_
        refine xe_getc (j := 0) d105_31 ky105 fl98 fk4_1 rfl ?_
        refine xe_getc (j := 0) d105_34 ky105 fl89 fk6_6 rfl ?_
        refine xs_iload_n d105_37 rfl ?_
        obtain ⟨hin6, hf⟩ := lk_g hf
        refine xe_iald d105_38 (by decide) ak31 hin6 ?_
        obtain ⟨v3_7, ev3_7, hf⟩ := lk_let hf
        refine xe_istore_n (v := v3_7) (ls2 := [(0, xr 11 (some 0)), (1, xi v1), (2, xi v2), (3, xi v3_7)]) d105_39 mx105 (by decide) ev3_7 rfl ?_
        refine xs_iload_n d105_40 rfl ?_
        refine xs_iload_n d105_41 rfl ?_
        rcases lk_if hf with ⟨hc8, hf⟩ | ⟨hc8, hf⟩
        · refine xs_icmp_ne (tgt := 47) d105_42 (by decide) (fun _ => ?_) (fun hn => absurd hc8 hn)
          refine xs_iconst (v := -1) d105_45 (by decide) ?_
          obtain ⟨eR, eH⟩ := K0 _ _ (Option.some.inj hf).symm
          subst eR; subst eH
          exact xs_iret d105_46 rt105
        · refine xs_icmp_ne (tgt := 47) d105_42 (by decide) (fun hp => absurd hp hc8) (fun _ => ?_)
          refine xs_aload_n d105_47 rfl ?_
          refine xe_getc (j := 0) d105_48 ky105 fl156 fk11_9 rfl ?_
          refine xs_aload_n d105_51 rfl ?_
          refine xe_getc (j := 0) d105_52 ky105 fl153 fk11_6 rfl ?_
          refine xe_getc (j := 0) d105_55 ky105 fl98 fk4_1 rfl ?_
          obtain ⟨h11, hc10, hf⟩ := lk_b hf
          refine xe_callv0 (as := [xr 6 (some 0)]) (st := []) (h2 := h11) (d2 := d - 1) d105_58 ky105 ml64 st6 (by decide) cn6 rfl na6 (Nat.le_of_ble_eq_true rfl) (by omega) (f_Past_keep_ok (by omega) hc10) ?_
          refine xs_aload_n d105_61 rfl ?_
          refine xe_getc (j := 0) d105_62 ky105 fl153 fk11_6 rfl ?_
          refine xe_getc (j := 0) d105_65 ky105 fl98 fk4_1 rfl ?_
          refine xe_getc (j := 0) d105_68 ky105 fl89 fk6_6 rfl ?_
          refine xs_iload_n d105_71 rfl ?_
          refine xs_iload_n d105_72 rfl ?_
          obtain ⟨hin12, hf⟩ := lk_g hf
          obtain ⟨h13, eh13, hf⟩ := lk_let hf
          refine xe_iast d105_73 (by decide) ak31 hin12  eh13 ?_
          refine xs_iload_n d105_74 rfl ?_
          obtain ⟨eR, eH⟩ := K0 _ _ (Option.some.inj hf).symm
          subst eR; subst eH
          exact xs_iret d105_75 rt105
noncomputable def f_B_lighten (v1 : Int32) (v2 : Int32) (h : xH) : Option (Int32 × xH) := f_B_lighten_e v1 v2 h
theorem f_B_lighten_ok {g : xG} {l : Launch} {d : Nat} {v1 : Int32} {v2 : Int32} {h : xH} {r : Int32} {h1 : xH} (hD : 3 ≤ d) (hf : f_B_lighten v1 v2 h = some (r, h1)) : xC g l d 105 [xr 11 (some 0), xi v1, xi v2] h (some (xi r)) h1 :=
  xC_of (by decide) (Nat.le_of_ble_eq_true rfl) (f_B_lighten_e_ok hD hf (fun _ _ e => by cases e; exact ⟨rfl, rfl⟩))
