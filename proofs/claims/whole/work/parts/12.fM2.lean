theorem d167_0 : decode (xcode 167) 0 = .ok (.aload_n 0, 1) := by decide +kernel
theorem d167_1 : decode (xcode 167) 1 = .ok (.invokevirtual 111, 3) := by decide +kernel
theorem d167_4 : decode (xcode 167) 4 = .ok (.bipush 48, 2) := by decide +kernel
theorem d167_6 : decode (xcode 167) 6 = .ok (.aload_n 0, 1) := by decide +kernel
theorem d167_7 : decode (xcode 167) 7 = .ok (.getfield 152, 3) := by decide +kernel
theorem d167_10 : decode (xcode 167) 10 = .ok (.imul, 1) := by decide +kernel
theorem d167_11 : decode (xcode 167) 11 = .ok (.iconst 4, 1) := by decide +kernel
theorem d167_12 : decode (xcode 167) 12 = .ok (.aload_n 0, 1) := by decide +kernel
theorem d167_13 : decode (xcode 167) 13 = .ok (.getfield 23, 3) := by decide +kernel
theorem d167_16 : decode (xcode 167) 16 = .ok (.aload_n 0, 1) := by decide +kernel
theorem d167_17 : decode (xcode 167) 17 = .ok (.getfield 152, 3) := by decide +kernel
theorem d167_20 : decode (xcode 167) 20 = .ok (.iaload, 1) := by decide +kernel
theorem d167_21 : decode (xcode 167) 21 = .ok (.imul, 1) := by decide +kernel
theorem d167_22 : decode (xcode 167) 22 = .ok (.iadd, 1) := by decide +kernel
theorem d167_23 : decode (xcode 167) 23 = .ok (.istore_n 1, 1) := by decide +kernel
theorem d167_24 : decode (xcode 167) 24 = .ok (.aload_n 0, 1) := by decide +kernel
theorem d167_25 : decode (xcode 167) 25 = .ok (.getfield 20, 3) := by decide +kernel
theorem d167_28 : decode (xcode 167) 28 = .ok (.iload_n 1, 1) := by decide +kernel
theorem d167_29 : decode (xcode 167) 29 = .ok (.aload_n 0, 1) := by decide +kernel
theorem d167_30 : decode (xcode 167) 30 = .ok (.getfield 17, 3) := by decide +kernel
theorem d167_33 : decode (xcode 167) 33 = .ok (.aload_n 0, 1) := by decide +kernel
theorem d167_34 : decode (xcode 167) 34 = .ok (.getfield 152, 3) := by decide +kernel
theorem d167_37 : decode (xcode 167) 37 = .ok (.iaload, 1) := by decide +kernel
theorem d167_38 : decode (xcode 167) 38 = .ok (.iastore, 1) := by decide +kernel
theorem d167_39 : decode (xcode 167) 39 = .ok (.aload_n 0, 1) := by decide +kernel
theorem d167_40 : decode (xcode 167) 40 = .ok (.invokevirtual 189, 3) := by decide +kernel
theorem d167_43 : decode (xcode 167) 43 = .ok (.ifCond .ne 5, 3) := by decide +kernel
theorem d167_46 : decode (xcode 167) 46 = .ok (.iconst 0, 1) := by decide +kernel
theorem d167_47 : decode (xcode 167) 47 = .ok (.ireturn, 1) := by decide +kernel
theorem d167_48 : decode (xcode 167) 48 = .ok (.aload_n 0, 1) := by decide +kernel
theorem d167_49 : decode (xcode 167) 49 = .ok (.getfield 20, 3) := by decide +kernel
theorem d167_52 : decode (xcode 167) 52 = .ok (.iload_n 1, 1) := by decide +kernel
theorem d167_53 : decode (xcode 167) 53 = .ok (.iconst 1, 1) := by decide +kernel
theorem d167_54 : decode (xcode 167) 54 = .ok (.iadd, 1) := by decide +kernel
theorem d167_55 : decode (xcode 167) 55 = .ok (.aload_n 0, 1) := by decide +kernel
theorem d167_56 : decode (xcode 167) 56 = .ok (.getfield 17, 3) := by decide +kernel
theorem d167_59 : decode (xcode 167) 59 = .ok (.aload_n 0, 1) := by decide +kernel
theorem d167_60 : decode (xcode 167) 60 = .ok (.getfield 152, 3) := by decide +kernel
theorem d167_63 : decode (xcode 167) 63 = .ok (.iaload, 1) := by decide +kernel
theorem d167_64 : decode (xcode 167) 64 = .ok (.iastore, 1) := by decide +kernel
theorem d167_65 : decode (xcode 167) 65 = .ok (.aload_n 0, 1) := by decide +kernel
theorem d167_66 : decode (xcode 167) 66 = .ok (.getfield 20, 3) := by decide +kernel
theorem d167_69 : decode (xcode 167) 69 = .ok (.iload_n 1, 1) := by decide +kernel
theorem d167_70 : decode (xcode 167) 70 = .ok (.iconst 2, 1) := by decide +kernel
theorem d167_71 : decode (xcode 167) 71 = .ok (.iadd, 1) := by decide +kernel
theorem d167_72 : decode (xcode 167) 72 = .ok (.iconst (-1), 1) := by decide +kernel
theorem d167_73 : decode (xcode 167) 73 = .ok (.iastore, 1) := by decide +kernel
theorem d167_74 : decode (xcode 167) 74 = .ok (.aload_n 0, 1) := by decide +kernel
theorem d167_75 : decode (xcode 167) 75 = .ok (.ldc2_w 216, 3) := by decide +kernel
theorem d167_78 : decode (xcode 167) 78 = .ok (.invokevirtual 218, 3) := by decide +kernel
theorem d167_81 : decode (xcode 167) 81 = .ok (.ifCond .eq 29, 3) := by decide +kernel
theorem d167_84 : decode (xcode 167) 84 = .ok (.aload_n 0, 1) := by decide +kernel
theorem d167_85 : decode (xcode 167) 85 = .ok (.getfield 20, 3) := by decide +kernel
theorem d167_88 : decode (xcode 167) 88 = .ok (.iload_n 1, 1) := by decide +kernel
theorem d167_89 : decode (xcode 167) 89 = .ok (.iconst 2, 1) := by decide +kernel
theorem d167_90 : decode (xcode 167) 90 = .ok (.iadd, 1) := by decide +kernel
theorem d167_91 : decode (xcode 167) 91 = .ok (.aload_n 0, 1) := by decide +kernel
theorem d167_92 : decode (xcode 167) 92 = .ok (.getfield 17, 3) := by decide +kernel
theorem d167_95 : decode (xcode 167) 95 = .ok (.aload_n 0, 1) := by decide +kernel
theorem d167_96 : decode (xcode 167) 96 = .ok (.getfield 152, 3) := by decide +kernel
theorem d167_99 : decode (xcode 167) 99 = .ok (.iaload, 1) := by decide +kernel
theorem d167_100 : decode (xcode 167) 100 = .ok (.iastore, 1) := by decide +kernel
theorem d167_101 : decode (xcode 167) 101 = .ok (.aload_n 0, 1) := by decide +kernel
theorem d167_102 : decode (xcode 167) 102 = .ok (.invokevirtual 221, 3) := by decide +kernel
theorem d167_105 : decode (xcode 167) 105 = .ok (.ifCond .ne 5, 3) := by decide +kernel
theorem d167_108 : decode (xcode 167) 108 = .ok (.iconst 0, 1) := by decide +kernel
theorem d167_109 : decode (xcode 167) 109 = .ok (.ireturn, 1) := by decide +kernel
theorem d167_110 : decode (xcode 167) 110 = .ok (.aload_n 0, 1) := by decide +kernel
theorem d167_111 : decode (xcode 167) 111 = .ok (.getfield 20, 3) := by decide +kernel
theorem d167_114 : decode (xcode 167) 114 = .ok (.iload_n 1, 1) := by decide +kernel
theorem d167_115 : decode (xcode 167) 115 = .ok (.iconst 3, 1) := by decide +kernel
theorem d167_116 : decode (xcode 167) 116 = .ok (.iadd, 1) := by decide +kernel
theorem d167_117 : decode (xcode 167) 117 = .ok (.aload_n 0, 1) := by decide +kernel
theorem d167_118 : decode (xcode 167) 118 = .ok (.getfield 17, 3) := by decide +kernel
theorem d167_121 : decode (xcode 167) 121 = .ok (.aload_n 0, 1) := by decide +kernel
theorem d167_122 : decode (xcode 167) 122 = .ok (.getfield 152, 3) := by decide +kernel
theorem d167_125 : decode (xcode 167) 125 = .ok (.iaload, 1) := by decide +kernel
theorem d167_126 : decode (xcode 167) 126 = .ok (.iastore, 1) := by decide +kernel
theorem d167_127 : decode (xcode 167) 127 = .ok (.aload_n 0, 1) := by decide +kernel
theorem d167_128 : decode (xcode 167) 128 = .ok (.getfield 23, 3) := by decide +kernel
theorem d167_131 : decode (xcode 167) 131 = .ok (.aload_n 0, 1) := by decide +kernel
theorem d167_132 : decode (xcode 167) 132 = .ok (.getfield 152, 3) := by decide +kernel
theorem d167_135 : decode (xcode 167) 135 = .ok (.dup2, 1) := by decide +kernel
theorem d167_136 : decode (xcode 167) 136 = .ok (.iaload, 1) := by decide +kernel
theorem d167_137 : decode (xcode 167) 137 = .ok (.iconst 1, 1) := by decide +kernel
theorem d167_138 : decode (xcode 167) 138 = .ok (.iadd, 1) := by decide +kernel
theorem d167_139 : decode (xcode 167) 139 = .ok (.iastore, 1) := by decide +kernel
theorem d167_140 : decode (xcode 167) 140 = .ok (.iconst 1, 1) := by decide +kernel
theorem d167_141 : decode (xcode 167) 141 = .ok (.ireturn, 1) := by decide +kernel
noncomputable def f_M_isLiftHere_b110 (v1 : Int32) (h : xH) : Option (Int32 × xH) :=
  if xib (h.1 12 11 0) 7 then (
  if xib (v1 + (3 : Int32)) 288 then (
  xlet (xsA h 50 0 (upd (h.2.2.2.1 50 0) (v1 + (3 : Int32)).toNatClampNeg (h.2.2.2.1 49 0 (h.1 12 11 0).toNatClampNeg))) fun h24 =>
  if xib (h24.1 12 11 0) 6 then (
  if xib (h24.1 12 11 0) 6 then (
  xlet (xsA h24 51 0 (upd (h24.2.2.2.1 51 0) (h24.1 12 11 0).toNatClampNeg ((h24.2.2.2.1 51 0 (h24.1 12 11 0).toNatClampNeg) + (1 : Int32)))) fun h27 =>
  some (((1 : Int32), h27))) else none) else none) else none) else none
set_option maxHeartbeats 4000000 in
set_option maxRecDepth 100000 in
theorem f_M_isLiftHere_b110_ok {g : xG} {l : Launch} {d : Nat} {v1 : Int32} {h : xH} {o : (Int32 × xH)} {R : Option xV} {H' : xH} (hD : 9 ≤ d) (hf : f_M_isLiftHere_b110 v1 h = some o) (K0 : ∀ (a : Int32) (h1 : xH), o = (a, h1) → R = some (xi a) ∧ H' = h1) : xEv g l d 167 110 [(0, xr 12 (some 0)), (1, xi v1)] [] h R H' := by
  unfold f_M_isLiftHere_b110 at hf
  refine xs_aload_n d167_110 rfl ?_
  refine xe_getc (j := 0) d167_111 ky167 fl166 fk12_5 rfl ?_
  refine xs_iload_n d167_114 rfl ?_
  refine xs_iconst (v := 3) d167_115 (by decide) ?_
  refine xs_iadd d167_116 ?_
  refine xs_aload_n d167_117 rfl ?_
  refine xe_getc (j := 0) d167_118 ky167 fl165 fk12_4 rfl ?_
  refine xs_aload_n d167_121 rfl ?_
  refine xe_geti d167_122 ky167 fl172 fk12_11 ?_
  obtain ⟨hin22, hf⟩ := lk_g hf
  refine xe_iald d167_125 (by decide) ak49 hin22 ?_
  obtain ⟨hin23, hf⟩ := lk_g hf
  obtain ⟨h24, eh24, hf⟩ := lk_let hf
  refine xe_iast d167_126 (by decide) ak50 hin23  eh24 ?_
  refine xs_aload_n d167_127 rfl ?_
  refine xe_getc (j := 0) d167_128 ky167 fl167 fk12_6 rfl ?_
  refine xs_aload_n d167_131 rfl ?_
  refine xe_geti d167_132 ky167 fl172 fk12_11 ?_
  refine xs_dup2 d167_135 rfl rfl ?_
  obtain ⟨hin25, hf⟩ := lk_g hf
  refine xe_iald d167_136 (by decide) ak51 hin25 ?_
  refine xs_iconst (v := 1) d167_137 (by decide) ?_
  refine xs_iadd d167_138 ?_
  obtain ⟨hin26, hf⟩ := lk_g hf
  obtain ⟨h27, eh27, hf⟩ := lk_let hf
  refine xe_iast d167_139 (by decide) ak51 hin26  eh27 ?_
  refine xs_iconst (v := 1) d167_140 (by decide) ?_
  obtain ⟨eR, eH⟩ := K0 _ _ (Option.some.inj hf).symm
  subst eR; subst eH
  exact xe_zret d167_141 (Or.inr rfl) rt167
noncomputable def f_M_isLiftHere_e (h : xH) : Option (Int32 × xH) :=
  (f_M_passWord h).bind fun h3 =>
  if xib (h3.1 12 11 0) 6 then (
  xlet (((48 : Int32) * (h3.1 12 11 0)) + ((4 : Int32) * (h3.2.2.2.1 51 0 (h3.1 12 11 0).toNatClampNeg))) fun v1_5 =>
  if xib (h3.1 12 11 0) 7 then (
  if xib v1_5 288 then (
  xlet (xsA h3 50 0 (upd (h3.2.2.2.1 50 0) (v1_5).toNatClampNeg (h3.2.2.2.1 49 0 (h3.1 12 11 0).toNatClampNeg))) fun h8 =>
  (f_M_sum h8).bind fun q11 =>
  if q11.1 = (0 : Int32) then (
  some (((0 : Int32), q11.2))) else (
  if xib (q11.2.1 12 11 0) 7 then (
  if xib (v1_5 + (1 : Int32)) 288 then (
  xlet (xsA q11.2 50 0 (upd (q11.2.2.2.2.1 50 0) (v1_5 + (1 : Int32)).toNatClampNeg (q11.2.2.2.2.1 49 0 (q11.2.1 12 11 0).toNatClampNeg))) fun h15 =>
  if xib (v1_5 + (2 : Int32)) 288 then (
  xlet (xsA h15 50 0 (upd (h15.2.2.2.1 50 0) (v1_5 + (2 : Int32)).toNatClampNeg (-1 : Int32))) fun h17 =>
  (f_M_takesWord (26982 : Int64) h17).bind fun q20 =>
  if q20.1 = (0 : Int32) then (
  f_M_isLiftHere_b110 v1_5 q20.2) else (
  if xib (q20.2.1 12 11 0) 7 then (
  if xib (v1_5 + (2 : Int32)) 288 then (
  xlet (xsA q20.2 50 0 (upd (q20.2.2.2.2.1 50 0) (v1_5 + (2 : Int32)).toNatClampNeg (q20.2.2.2.2.1 49 0 (q20.2.1 12 11 0).toNatClampNeg))) fun h30 =>
  (f_M_tested h30).bind fun q33 =>
  if q33.1 = (0 : Int32) then (
  some (((0 : Int32), q33.2))) else (
  f_M_isLiftHere_b110 v1_5 q33.2)) else none) else none)) else none) else none) else none)) else none) else none) else none
set_option maxHeartbeats 4000000 in
set_option maxRecDepth 100000 in
theorem f_M_isLiftHere_e_ok {g : xG} {l : Launch} {d : Nat} {h : xH} {o : (Int32 × xH)} {R : Option xV} {H' : xH} (hD : 9 ≤ d) (hf : f_M_isLiftHere_e h = some o) (K0 : ∀ (a : Int32) (h1 : xH), o = (a, h1) → R = some (xi a) ∧ H' = h1) : xEv g l d 167 0 [(0, xr 12 (some 0))] [] h R H' := by
  unfold f_M_isLiftHere_e at hf
  refine xs_aload_n d167_0 rfl ?_
  obtain ⟨h3, hc2, hf⟩ := lk_b hf
  refine xe_callv0 (as := []) (st := []) (h2 := h3) (d2 := d - 1) d167_1 ky167 ml192 st150 (by decide) cn150 rfl na150 (Nat.le_of_ble_eq_true rfl) (by omega) (f_M_passWord_ok (by omega) hc2) ?_
  refine xs_bipush (v := 48) d167_4 (by decide) ?_
  refine xs_aload_n d167_6 rfl ?_
  refine xe_geti d167_7 ky167 fl172 fk12_11 ?_
  refine xs_imul d167_10 ?_
  refine xs_iconst (v := 4) d167_11 (by decide) ?_
  refine xs_aload_n d167_12 rfl ?_
  refine xe_getc (j := 0) d167_13 ky167 fl167 fk12_6 rfl ?_
  refine xs_aload_n d167_16 rfl ?_
  refine xe_geti d167_17 ky167 fl172 fk12_11 ?_
  obtain ⟨hin4, hf⟩ := lk_g hf
  refine xe_iald d167_20 (by decide) ak51 hin4 ?_
  refine xs_imul d167_21 ?_
  refine xs_iadd d167_22 ?_
  obtain ⟨v1_5, ev1_5, hf⟩ := lk_let hf
  refine xe_istore_n (v := v1_5) (ls2 := [(0, xr 12 (some 0)), (1, xi v1_5)]) d167_23 mx167 (by decide) ev1_5 rfl ?_
  refine xs_aload_n d167_24 rfl ?_
  refine xe_getc (j := 0) d167_25 ky167 fl166 fk12_5 rfl ?_
  refine xs_iload_n d167_28 rfl ?_
  refine xs_aload_n d167_29 rfl ?_
  refine xe_getc (j := 0) d167_30 ky167 fl165 fk12_4 rfl ?_
  refine xs_aload_n d167_33 rfl ?_
  refine xe_geti d167_34 ky167 fl172 fk12_11 ?_
  obtain ⟨hin6, hf⟩ := lk_g hf
  refine xe_iald d167_37 (by decide) ak49 hin6 ?_
  obtain ⟨hin7, hf⟩ := lk_g hf
  obtain ⟨h8, eh8, hf⟩ := lk_let hf
  refine xe_iast d167_38 (by decide) ak50 hin7  eh8 ?_
  refine xs_aload_n d167_39 rfl ?_
  obtain ⟨q11, hc10, hf⟩ := lk_b hf
  refine xe_callv1 (as := []) (st := []) (h2 := q11.2) (d2 := d - 1) d167_40 ky167 ml201 st161 (by decide) cn161 rfl na161 (Nat.le_of_ble_eq_true rfl) (by omega) (f_M_sum_ok (by omega) hc10) ?_
  rcases lk_if hf with ⟨hc12, hf⟩ | ⟨hc12, hf⟩
  · refine xs_if_ne (tgt := 48) d167_43 (by decide) (fun _ => ?_) (fun hn => absurd hc12 hn)
    refine xs_iconst (v := 0) d167_46 (by decide) ?_
    obtain ⟨eR, eH⟩ := K0 _ _ (Option.some.inj hf).symm
    subst eR; subst eH
    exact xe_zret d167_47 (Or.inl rfl) rt167
  · refine xs_if_ne (tgt := 48) d167_43 (by decide) (fun hp => absurd hp hc12) (fun _ => ?_)
    refine xs_aload_n d167_48 rfl ?_
    refine xe_getc (j := 0) d167_49 ky167 fl166 fk12_5 rfl ?_
    refine xs_iload_n d167_52 rfl ?_
    refine xs_iconst (v := 1) d167_53 (by decide) ?_
    refine xs_iadd d167_54 ?_
    refine xs_aload_n d167_55 rfl ?_
    refine xe_getc (j := 0) d167_56 ky167 fl165 fk12_4 rfl ?_
    refine xs_aload_n d167_59 rfl ?_
    refine xe_geti d167_60 ky167 fl172 fk12_11 ?_
    obtain ⟨hin13, hf⟩ := lk_g hf
    refine xe_iald d167_63 (by decide) ak49 hin13 ?_
    obtain ⟨hin14, hf⟩ := lk_g hf
    obtain ⟨h15, eh15, hf⟩ := lk_let hf
    refine xe_iast d167_64 (by decide) ak50 hin14  eh15 ?_
    refine xs_aload_n d167_65 rfl ?_
    refine xe_getc (j := 0) d167_66 ky167 fl166 fk12_5 rfl ?_
    refine xs_iload_n d167_69 rfl ?_
    refine xs_iconst (v := 2) d167_70 (by decide) ?_
    refine xs_iadd d167_71 ?_
    refine xs_iconst (v := -1) d167_72 (by decide) ?_
    obtain ⟨hin16, hf⟩ := lk_g hf
    obtain ⟨h17, eh17, hf⟩ := lk_let hf
    refine xe_iast d167_73 (by decide) ak50 hin16  eh17 ?_
    refine xs_aload_n d167_74 rfl ?_
    refine xs_ldc2 (v := 26982) d167_75 cl12_216 ?_
    obtain ⟨q20, hc19, hf⟩ := lk_b hf
    refine xe_callv1 (as := [xl (26982 : Int64)]) (st := []) (h2 := q20.2) (d2 := d - 1) d167_78 ky167 ml207 st151 (by decide) cn151 rfl na151 (Nat.le_of_ble_eq_true rfl) (by omega) (f_M_takesWord_ok (by omega) hc19) ?_
    rcases lk_if hf with ⟨hc21, hf⟩ | ⟨hc21, hf⟩
    · refine xs_if_eq (tgt := 110) d167_81 (by decide) (fun _ => ?_) (fun hn => absurd hc21 hn)
      exact f_M_isLiftHere_b110_ok hD hf K0
    · refine xs_if_eq (tgt := 110) d167_81 (by decide) (fun hp => absurd hp hc21) (fun _ => ?_)
      refine xs_aload_n d167_84 rfl ?_
      refine xe_getc (j := 0) d167_85 ky167 fl166 fk12_5 rfl ?_
      refine xs_iload_n d167_88 rfl ?_
      refine xs_iconst (v := 2) d167_89 (by decide) ?_
      refine xs_iadd d167_90 ?_
      refine xs_aload_n d167_91 rfl ?_
      refine xe_getc (j := 0) d167_92 ky167 fl165 fk12_4 rfl ?_
      refine xs_aload_n d167_95 rfl ?_
      refine xe_geti d167_96 ky167 fl172 fk12_11 ?_
      obtain ⟨hin28, hf⟩ := lk_g hf
      refine xe_iald d167_99 (by decide) ak49 hin28 ?_
      obtain ⟨hin29, hf⟩ := lk_g hf
      obtain ⟨h30, eh30, hf⟩ := lk_let hf
      refine xe_iast d167_100 (by decide) ak50 hin29  eh30 ?_
      refine xs_aload_n d167_101 rfl ?_
      obtain ⟨q33, hc32, hf⟩ := lk_b hf
      refine xe_callv1 (as := []) (st := []) (h2 := q33.2) (d2 := d - 1) d167_102 ky167 ml208 st166 (by decide) cn166 rfl na166 (Nat.le_of_ble_eq_true rfl) (by omega) (f_M_tested_ok (by omega) hc32) ?_
      rcases lk_if hf with ⟨hc34, hf⟩ | ⟨hc34, hf⟩
      · refine xs_if_ne (tgt := 110) d167_105 (by decide) (fun _ => ?_) (fun hn => absurd hc34 hn)
        refine xs_iconst (v := 0) d167_108 (by decide) ?_
        obtain ⟨eR, eH⟩ := K0 _ _ (Option.some.inj hf).symm
        subst eR; subst eH
        exact xe_zret d167_109 (Or.inl rfl) rt167
      · refine xs_if_ne (tgt := 110) d167_105 (by decide) (fun hp => absurd hp hc34) (fun _ => ?_)
        exact f_M_isLiftHere_b110_ok hD hf K0
noncomputable def f_M_isLiftHere (h : xH) : Option (Int32 × xH) := f_M_isLiftHere_e h
theorem f_M_isLiftHere_ok {g : xG} {l : Launch} {d : Nat} {h : xH} {r : Int32} {h1 : xH} (hD : 9 ≤ d) (hf : f_M_isLiftHere h = some (r, h1)) : xC g l d 167 [xr 12 (some 0)] h (some (xi r)) h1 :=
  xC_of2 (by decide) mx167 (Nat.le_of_ble_eq_true rfl) (f_M_isLiftHere_e_ok hD hf (fun _ _ e => by cases e; exact ⟨rfl, rfl⟩))
theorem d168_0 : decode (xcode 168) 0 = .ok (.aload_n 0, 1) := by decide +kernel
theorem d168_1 : decode (xcode 168) 1 = .ok (.iload_n 2, 1) := by decide +kernel
theorem d168_2 : decode (xcode 168) 2 = .ok (.iload_n 3, 1) := by decide +kernel
theorem d168_3 : decode (xcode 168) 3 = .ok (.invokevirtual 173, 3) := by decide +kernel
theorem d168_6 : decode (xcode 168) 6 = .ok (.ifCond .ne 5, 3) := by decide +kernel
theorem d168_9 : decode (xcode 168) 9 = .ok (.iconst 0, 1) := by decide +kernel
theorem d168_10 : decode (xcode 168) 10 = .ok (.ireturn, 1) := by decide +kernel
theorem d168_11 : decode (xcode 168) 11 = .ok (.aload_n 0, 1) := by decide +kernel
theorem d168_12 : decode (xcode 168) 12 = .ok (.getfield 26, 3) := by decide +kernel
theorem d168_15 : decode (xcode 168) 15 = .ok (.iload_n 1, 1) := by decide +kernel
theorem d168_16 : decode (xcode 168) 16 = .ok (.aload_n 0, 1) := by decide +kernel
theorem d168_17 : decode (xcode 168) 17 = .ok (.getfield 121, 3) := by decide +kernel
theorem d168_20 : decode (xcode 168) 20 = .ok (.iastore, 1) := by decide +kernel
theorem d168_21 : decode (xcode 168) 21 = .ok (.iconst 1, 1) := by decide +kernel
theorem d168_22 : decode (xcode 168) 22 = .ok (.ireturn, 1) := by decide +kernel
noncomputable def f_M_cellHere_e (v1 : Int32) (v2 : Int32) (v3 : Int32) (h : xH) : Option (Int32 × xH) :=
  (f_M_numberHere v2 v3 h).bind fun q3 =>
  if q3.1 = (0 : Int32) then (
  some (((0 : Int32), q3.2))) else (
  if xib v1 80 then (
  xlet (xsA q3.2 52 0 (upd (q3.2.2.2.2.1 52 0) (v1).toNatClampNeg (q3.2.1 12 10 0))) fun h6 =>
  some (((1 : Int32), h6))) else none)
set_option maxHeartbeats 4000000 in
set_option maxRecDepth 100000 in
theorem f_M_cellHere_e_ok {g : xG} {l : Launch} {d : Nat} {v1 : Int32} {v2 : Int32} {v3 : Int32} {h : xH} {o : (Int32 × xH)} {R : Option xV} {H' : xH} (hD : 2 ≤ d) (hf : f_M_cellHere_e v1 v2 v3 h = some o) (K0 : ∀ (a : Int32) (h1 : xH), o = (a, h1) → R = some (xi a) ∧ H' = h1) : xEv g l d 168 0 [(0, xr 12 (some 0)), (1, xi v1), (2, xi v2), (3, xi v3)] [] h R H' := by
  unfold f_M_cellHere_e at hf
  refine xs_aload_n d168_0 rfl ?_
  refine xs_iload_n d168_1 rfl ?_
  refine xs_iload_n d168_2 rfl ?_
  obtain ⟨q3, hc2, hf⟩ := lk_b hf
  refine xe_callv1 (as := [xi v2, xi v3]) (st := []) (h2 := q3.2) (d2 := d - 1) d168_3 ky168 ml194 st152 (by decide) cn152 rfl na152 (Nat.le_of_ble_eq_true rfl) (by omega) (f_M_numberHere_ok (by omega) hc2) ?_
  rcases lk_if hf with ⟨hc4, hf⟩ | ⟨hc4, hf⟩
  · refine xs_if_ne (tgt := 11) d168_6 (by decide) (fun _ => ?_) (fun hn => absurd hc4 hn)
    refine xs_iconst (v := 0) d168_9 (by decide) ?_
    obtain ⟨eR, eH⟩ := K0 _ _ (Option.some.inj hf).symm
    subst eR; subst eH
    exact xe_zret d168_10 (Or.inl rfl) rt168
  · refine xs_if_ne (tgt := 11) d168_6 (by decide) (fun hp => absurd hp hc4) (fun _ => ?_)
    refine xs_aload_n d168_11 rfl ?_
    refine xe_getc (j := 0) d168_12 ky168 fl168 fk12_7 rfl ?_
    refine xs_iload_n d168_15 rfl ?_
    refine xs_aload_n d168_16 rfl ?_
    refine xe_geti d168_17 ky168 fl171 fk12_10 ?_
    obtain ⟨hin5, hf⟩ := lk_g hf
    obtain ⟨h6, eh6, hf⟩ := lk_let hf
    refine xe_iast d168_20 (by decide) ak52 hin5  eh6 ?_
    refine xs_iconst (v := 1) d168_21 (by decide) ?_
    obtain ⟨eR, eH⟩ := K0 _ _ (Option.some.inj hf).symm
    subst eR; subst eH
    exact xe_zret d168_22 (Or.inr rfl) rt168
noncomputable def f_M_cellHere (v1 : Int32) (v2 : Int32) (v3 : Int32) (h : xH) : Option (Int32 × xH) := f_M_cellHere_e v1 v2 v3 h
theorem f_M_cellHere_ok {g : xG} {l : Launch} {d : Nat} {v1 : Int32} {v2 : Int32} {v3 : Int32} {h : xH} {r : Int32} {h1 : xH} (hD : 2 ≤ d) (hf : f_M_cellHere v1 v2 v3 h = some (r, h1)) : xC g l d 168 [xr 12 (some 0), xi v1, xi v2, xi v3] h (some (xi r)) h1 :=
  xC_of2 (by decide) mx168 (Nat.le_of_ble_eq_true rfl) (f_M_cellHere_e_ok hD hf (fun _ _ e => by cases e; exact ⟨rfl, rfl⟩))
theorem d169_0 : decode (xcode 169) 0 = .ok (.aload_n 0, 1) := by decide +kernel
theorem d169_1 : decode (xcode 169) 1 = .ok (.getfield 26, 3) := by decide +kernel
theorem d169_4 : decode (xcode 169) 4 = .ok (.iconst 0, 1) := by decide +kernel
theorem d169_5 : decode (xcode 169) 5 = .ok (.iaload, 1) := by decide +kernel
theorem d169_6 : decode (xcode 169) 6 = .ok (.ifCond .le 10, 3) := by decide +kernel
theorem d169_9 : decode (xcode 169) 9 = .ok (.aload_n 0, 1) := by decide +kernel
theorem d169_10 : decode (xcode 169) 10 = .ok (.iconst 4, 1) := by decide +kernel
theorem d169_11 : decode (xcode 169) 11 = .ok (.iload_n 1, 1) := by decide +kernel
theorem d169_12 : decode (xcode 169) 12 = .ok (.invokevirtual 117, 3) := by decide +kernel
theorem d169_15 : decode (xcode 169) 15 = .ok (.ireturn, 1) := by decide +kernel
theorem d169_16 : decode (xcode 169) 16 = .ok (.aload_n 0, 1) := by decide +kernel
theorem d169_17 : decode (xcode 169) 17 = .ok (.invokevirtual 111, 3) := by decide +kernel
theorem d169_20 : decode (xcode 169) 20 = .ok (.aload_n 0, 1) := by decide +kernel
theorem d169_21 : decode (xcode 169) 21 = .ok (.iconst 1, 1) := by decide +kernel
theorem d169_22 : decode (xcode 169) 22 = .ok (.iconst 1, 1) := by decide +kernel
theorem d169_23 : decode (xcode 169) 23 = .ok (.sipush 300, 3) := by decide +kernel
theorem d169_26 : decode (xcode 169) 26 = .ok (.invokevirtual 224, 3) := by decide +kernel
theorem d169_29 : decode (xcode 169) 29 = .ok (.ifCond .eq 14, 3) := by decide +kernel
theorem d169_32 : decode (xcode 169) 32 = .ok (.aload_n 0, 1) := by decide +kernel
theorem d169_33 : decode (xcode 169) 33 = .ok (.iconst 2, 1) := by decide +kernel
theorem d169_34 : decode (xcode 169) 34 = .ok (.iconst 0, 1) := by decide +kernel
theorem d169_35 : decode (xcode 169) 35 = .ok (.bipush 20, 2) := by decide +kernel
theorem d169_37 : decode (xcode 169) 37 = .ok (.invokevirtual 224, 3) := by decide +kernel
theorem d169_40 : decode (xcode 169) 40 = .ok (.ifCond .ne 5, 3) := by decide +kernel
theorem d169_43 : decode (xcode 169) 43 = .ok (.iconst 0, 1) := by decide +kernel
theorem d169_44 : decode (xcode 169) 44 = .ok (.ireturn, 1) := by decide +kernel
theorem d169_45 : decode (xcode 169) 45 = .ok (.aload_n 0, 1) := by decide +kernel
theorem d169_46 : decode (xcode 169) 46 = .ok (.getfield 26, 3) := by decide +kernel
theorem d169_49 : decode (xcode 169) 49 = .ok (.iconst 0, 1) := by decide +kernel
theorem d169_50 : decode (xcode 169) 50 = .ok (.iconst 1, 1) := by decide +kernel
theorem d169_51 : decode (xcode 169) 51 = .ok (.iastore, 1) := by decide +kernel
theorem d169_52 : decode (xcode 169) 52 = .ok (.iconst 1, 1) := by decide +kernel
theorem d169_53 : decode (xcode 169) 53 = .ok (.ireturn, 1) := by decide +kernel
noncomputable def f_M_isTrugHere_e (v1 : Int32) (h : xH) : Option (Int32 × xH) :=
  if (h.2.2.2.1 52 0 ((0 : Int32)).toNatClampNeg) ≤ (0 : Int32) then (
  (f_M_passWord h).bind fun h4 =>
  (f_M_cellHere (1 : Int32) (1 : Int32) (300 : Int32) h4).bind fun q7 =>
  if q7.1 = (0 : Int32) then (
  some (((0 : Int32), q7.2))) else (
  (f_M_cellHere (2 : Int32) (0 : Int32) (20 : Int32) q7.2).bind fun q11 =>
  if q11.1 = (0 : Int32) then (
  some (((0 : Int32), q11.2))) else (
  xlet (xsA q11.2 52 0 (upd (q11.2.2.2.2.1 52 0) ((0 : Int32)).toNatClampNeg (1 : Int32))) fun h13 =>
  some (((1 : Int32), h13))))) else (
  (f_M_fails (4 : Int32) v1 h).bind fun q16 =>
  if q16.1 = 0 ∨ q16.1 = 1 then (
  some ((q16.1, q16.2))) else none)
set_option maxHeartbeats 4000000 in
set_option maxRecDepth 100000 in
theorem f_M_isTrugHere_e_ok {g : xG} {l : Launch} {d : Nat} {v1 : Int32} {h : xH} {o : (Int32 × xH)} {R : Option xV} {H' : xH} (hD : 3 ≤ d) (hf : f_M_isTrugHere_e v1 h = some o) (K0 : ∀ (a : Int32) (h1 : xH), o = (a, h1) → R = some (xi a) ∧ H' = h1) : xEv g l d 169 0 [(0, xr 12 (some 0)), (1, xi v1)] [] h R H' := by
  unfold f_M_isTrugHere_e at hf
  refine xs_aload_n d169_0 rfl ?_
  refine xe_getc (j := 0) d169_1 ky169 fl168 fk12_7 rfl ?_
  refine xs_iconst (v := 0) d169_4 (by decide) ?_
  refine xe_iald d169_5 (by decide) ak52 (show xib (0 : Int32) 80 by decide) ?_
  rcases lk_if hf with ⟨hc1, hf⟩ | ⟨hc1, hf⟩
  · refine xs_if_le (tgt := 16) d169_6 (by decide) (fun _ => ?_) (fun hn => absurd hc1 hn)
    refine xs_aload_n d169_16 rfl ?_
    obtain ⟨h4, hc3, hf⟩ := lk_b hf
    refine xe_callv0 (as := []) (st := []) (h2 := h4) (d2 := d - 1) d169_17 ky169 ml192 st150 (by decide) cn150 rfl na150 (Nat.le_of_ble_eq_true rfl) (by omega) (f_M_passWord_ok (by omega) hc3) ?_
    refine xs_aload_n d169_20 rfl ?_
    refine xs_iconst (v := 1) d169_21 (by decide) ?_
    refine xs_iconst (v := 1) d169_22 (by decide) ?_
    refine xs_sipush (v := 300) d169_23 (by decide) ?_
    obtain ⟨q7, hc6, hf⟩ := lk_b hf
    refine xe_callv1 (as := [xi (1 : Int32), xi (1 : Int32), xi (300 : Int32)]) (st := []) (h2 := q7.2) (d2 := d - 1) d169_26 ky169 ml193 st168 (by decide) cn168 rfl na168 (Nat.le_of_ble_eq_true rfl) (by omega) (f_M_cellHere_ok (by omega) hc6) ?_
    rcases lk_if hf with ⟨hc8, hf⟩ | ⟨hc8, hf⟩
    · refine xs_if_eq (tgt := 43) d169_29 (by decide) (fun _ => ?_) (fun hn => absurd hc8 hn)
      refine xs_iconst (v := 0) d169_43 (by decide) ?_
      obtain ⟨eR, eH⟩ := K0 _ _ (Option.some.inj hf).symm
      subst eR; subst eH
      exact xe_zret d169_44 (Or.inl rfl) rt169
    · refine xs_if_eq (tgt := 43) d169_29 (by decide) (fun hp => absurd hp hc8) (fun _ => ?_)
      refine xs_aload_n d169_32 rfl ?_
      refine xs_iconst (v := 2) d169_33 (by decide) ?_
      refine xs_iconst (v := 0) d169_34 (by decide) ?_
      refine xs_bipush (v := 20) d169_35 (by decide) ?_
      obtain ⟨q11, hc10, hf⟩ := lk_b hf
      refine xe_callv1 (as := [xi (2 : Int32), xi (0 : Int32), xi (20 : Int32)]) (st := []) (h2 := q11.2) (d2 := d - 1) d169_37 ky169 ml193 st168 (by decide) cn168 rfl na168 (Nat.le_of_ble_eq_true rfl) (by omega) (f_M_cellHere_ok (by omega) hc10) ?_
      rcases lk_if hf with ⟨hc12, hf⟩ | ⟨hc12, hf⟩
      · refine xs_if_ne (tgt := 45) d169_40 (by decide) (fun _ => ?_) (fun hn => absurd hc12 hn)
        refine xs_iconst (v := 0) d169_43 (by decide) ?_
        obtain ⟨eR, eH⟩ := K0 _ _ (Option.some.inj hf).symm
        subst eR; subst eH
        exact xe_zret d169_44 (Or.inl rfl) rt169
      · refine xs_if_ne (tgt := 45) d169_40 (by decide) (fun hp => absurd hp hc12) (fun _ => ?_)
        refine xs_aload_n d169_45 rfl ?_
        refine xe_getc (j := 0) d169_46 ky169 fl168 fk12_7 rfl ?_
        refine xs_iconst (v := 0) d169_49 (by decide) ?_
        refine xs_iconst (v := 1) d169_50 (by decide) ?_
        obtain ⟨h13, eh13, hf⟩ := lk_let hf
        refine xe_iast d169_51 (by decide) ak52 (show xib (0 : Int32) 80 by decide)  eh13 ?_
        refine xs_iconst (v := 1) d169_52 (by decide) ?_
        obtain ⟨eR, eH⟩ := K0 _ _ (Option.some.inj hf).symm
        subst eR; subst eH
        exact xe_zret d169_53 (Or.inr rfl) rt169
  · refine xs_if_le (tgt := 16) d169_6 (by decide) (fun hp => absurd hp hc1) (fun _ => ?_)
    refine xs_aload_n d169_9 rfl ?_
    refine xs_iconst (v := 4) d169_10 (by decide) ?_
    refine xs_iload_n d169_11 rfl ?_
    obtain ⟨q16, hc15, hf⟩ := lk_b hf
    refine xe_callv1 (as := [xi (4 : Int32), xi v1]) (st := []) (h2 := q16.2) (d2 := d - 1) d169_12 ky169 ml189 st145 (by decide) cn145 rfl na145 (Nat.le_of_ble_eq_true rfl) (by omega) (f_M_fails_ok (by omega) hc15) ?_
    obtain ⟨hz17, hf⟩ := lk_g hf
    obtain ⟨eR, eH⟩ := K0 _ _ (Option.some.inj hf).symm
    subst eR; subst eH
    exact xe_zret d169_15 hz17 rt169
noncomputable def f_M_isTrugHere (v1 : Int32) (h : xH) : Option (Int32 × xH) := f_M_isTrugHere_e v1 h
theorem f_M_isTrugHere_ok {g : xG} {l : Launch} {d : Nat} {v1 : Int32} {h : xH} {r : Int32} {h1 : xH} (hD : 3 ≤ d) (hf : f_M_isTrugHere v1 h = some (r, h1)) : xC g l d 169 [xr 12 (some 0), xi v1] h (some (xi r)) h1 :=
  xC_of2 (by decide) mx169 (Nat.le_of_ble_eq_true rfl) (f_M_isTrugHere_e_ok hD hf (fun _ _ e => by cases e; exact ⟨rfl, rfl⟩))
theorem d170_0 : decode (xcode 170) 0 = .ok (.aload_n 0, 1) := by decide +kernel
theorem d170_1 : decode (xcode 170) 1 = .ok (.getfield 26, 3) := by decide +kernel
theorem d170_4 : decode (xcode 170) 4 = .ok (.iconst 3, 1) := by decide +kernel
theorem d170_5 : decode (xcode 170) 5 = .ok (.iaload, 1) := by decide +kernel
theorem d170_6 : decode (xcode 170) 6 = .ok (.bipush 8, 2) := by decide +kernel
theorem d170_8 : decode (xcode 170) 8 = .ok (.if_icmp .ne 10, 3) := by decide +kernel
theorem d170_11 : decode (xcode 170) 11 = .ok (.aload_n 0, 1) := by decide +kernel
theorem d170_12 : decode (xcode 170) 12 = .ok (.iconst 4, 1) := by decide +kernel
theorem d170_13 : decode (xcode 170) 13 = .ok (.iload_n 1, 1) := by decide +kernel
theorem d170_14 : decode (xcode 170) 14 = .ok (.invokevirtual 117, 3) := by decide +kernel
theorem d170_17 : decode (xcode 170) 17 = .ok (.ireturn, 1) := by decide +kernel
theorem d170_18 : decode (xcode 170) 18 = .ok (.aload_n 0, 1) := by decide +kernel
theorem d170_19 : decode (xcode 170) 19 = .ok (.invokevirtual 111, 3) := by decide +kernel
theorem d170_22 : decode (xcode 170) 22 = .ok (.aload_n 0, 1) := by decide +kernel
theorem d170_23 : decode (xcode 170) 23 = .ok (.getfield 26, 3) := by decide +kernel
theorem d170_26 : decode (xcode 170) 26 = .ok (.iconst 3, 1) := by decide +kernel
theorem d170_27 : decode (xcode 170) 27 = .ok (.iaload, 1) := by decide +kernel
theorem d170_28 : decode (xcode 170) 28 = .ok (.istore_n 2, 1) := by decide +kernel
theorem d170_29 : decode (xcode 170) 29 = .ok (.aload_n 0, 1) := by decide +kernel
theorem d170_30 : decode (xcode 170) 30 = .ok (.bipush 64, 2) := by decide +kernel
theorem d170_32 : decode (xcode 170) 32 = .ok (.iload_n 2, 1) := by decide +kernel
theorem d170_33 : decode (xcode 170) 33 = .ok (.iadd, 1) := by decide +kernel
theorem d170_34 : decode (xcode 170) 34 = .ok (.iconst 1, 1) := by decide +kernel
theorem d170_35 : decode (xcode 170) 35 = .ok (.bipush 20, 2) := by decide +kernel
theorem d170_37 : decode (xcode 170) 37 = .ok (.invokevirtual 224, 3) := by decide +kernel
theorem d170_40 : decode (xcode 170) 40 = .ok (.ifCond .eq 31, 3) := by decide +kernel
theorem d170_43 : decode (xcode 170) 43 = .ok (.aload_n 0, 1) := by decide +kernel
theorem d170_44 : decode (xcode 170) 44 = .ok (.bipush 44, 2) := by decide +kernel
theorem d170_46 : decode (xcode 170) 46 = .ok (.iload_n 2, 1) := by decide +kernel
theorem d170_47 : decode (xcode 170) 47 = .ok (.iadd, 1) := by decide +kernel
theorem d170_48 : decode (xcode 170) 48 = .ok (.iconst 1, 1) := by decide +kernel
theorem d170_49 : decode (xcode 170) 49 = .ok (.bipush 40, 2) := by decide +kernel
theorem d170_51 : decode (xcode 170) 51 = .ok (.invokevirtual 224, 3) := by decide +kernel
theorem d170_54 : decode (xcode 170) 54 = .ok (.ifCond .eq 17, 3) := by decide +kernel
theorem d170_57 : decode (xcode 170) 57 = .ok (.aload_n 0, 1) := by decide +kernel
theorem d170_58 : decode (xcode 170) 58 = .ok (.bipush 52, 2) := by decide +kernel
theorem d170_60 : decode (xcode 170) 60 = .ok (.iload_n 2, 1) := by decide +kernel
theorem d170_61 : decode (xcode 170) 61 = .ok (.iadd, 1) := by decide +kernel
theorem d170_62 : decode (xcode 170) 62 = .ok (.iconst 0, 1) := by decide +kernel
theorem d170_63 : decode (xcode 170) 63 = .ok (.bipush 30, 2) := by decide +kernel
theorem d170_65 : decode (xcode 170) 65 = .ok (.invokevirtual 224, 3) := by decide +kernel
theorem d170_68 : decode (xcode 170) 68 = .ok (.ifCond .ne 5, 3) := by decide +kernel
theorem d170_71 : decode (xcode 170) 71 = .ok (.iconst 0, 1) := by decide +kernel
theorem d170_72 : decode (xcode 170) 72 = .ok (.ireturn, 1) := by decide +kernel
theorem d170_73 : decode (xcode 170) 73 = .ok (.aload_n 0, 1) := by decide +kernel
theorem d170_74 : decode (xcode 170) 74 = .ok (.getfield 26, 3) := by decide +kernel
theorem d170_77 : decode (xcode 170) 77 = .ok (.iconst 3, 1) := by decide +kernel
theorem d170_78 : decode (xcode 170) 78 = .ok (.dup2, 1) := by decide +kernel
theorem d170_79 : decode (xcode 170) 79 = .ok (.iaload, 1) := by decide +kernel
theorem d170_80 : decode (xcode 170) 80 = .ok (.iconst 1, 1) := by decide +kernel
theorem d170_81 : decode (xcode 170) 81 = .ok (.iadd, 1) := by decide +kernel
theorem d170_82 : decode (xcode 170) 82 = .ok (.iastore, 1) := by decide +kernel
theorem d170_83 : decode (xcode 170) 83 = .ok (.iconst 1, 1) := by decide +kernel
theorem d170_84 : decode (xcode 170) 84 = .ok (.ireturn, 1) := by decide +kernel
noncomputable def f_M_isSorrowHere_e (v1 : Int32) (h : xH) : Option (Int32 × xH) :=
  if (h.2.2.2.1 52 0 ((3 : Int32)).toNatClampNeg) = (8 : Int32) then (
  (f_M_fails (4 : Int32) v1 h).bind fun q4 =>
  if q4.1 = 0 ∨ q4.1 = 1 then (
  some ((q4.1, q4.2))) else none) else (
  (f_M_passWord h).bind fun h8 =>
  xlet (h8.2.2.2.1 52 0 ((3 : Int32)).toNatClampNeg) fun v2_9 =>
  (f_M_cellHere ((64 : Int32) + v2_9) (1 : Int32) (20 : Int32) h8).bind fun q12 =>
  if q12.1 = (0 : Int32) then (
  some (((0 : Int32), q12.2))) else (
  (f_M_cellHere ((44 : Int32) + v2_9) (1 : Int32) (40 : Int32) q12.2).bind fun q16 =>
  if q16.1 = (0 : Int32) then (
  some (((0 : Int32), q16.2))) else (
  (f_M_cellHere ((52 : Int32) + v2_9) (0 : Int32) (30 : Int32) q16.2).bind fun q20 =>
  if q20.1 = (0 : Int32) then (
  some (((0 : Int32), q20.2))) else (
  xlet (xsA q20.2 52 0 (upd (q20.2.2.2.2.1 52 0) ((3 : Int32)).toNatClampNeg ((q20.2.2.2.2.1 52 0 ((3 : Int32)).toNatClampNeg) + (1 : Int32)))) fun h22 =>
  some (((1 : Int32), h22))))))
set_option maxHeartbeats 4000000 in
set_option maxRecDepth 100000 in
theorem f_M_isSorrowHere_e_ok {g : xG} {l : Launch} {d : Nat} {v1 : Int32} {h : xH} {o : (Int32 × xH)} {R : Option xV} {H' : xH} (hD : 3 ≤ d) (hf : f_M_isSorrowHere_e v1 h = some o) (K0 : ∀ (a : Int32) (h1 : xH), o = (a, h1) → R = some (xi a) ∧ H' = h1) : xEv g l d 170 0 [(0, xr 12 (some 0)), (1, xi v1)] [] h R H' := by
  unfold f_M_isSorrowHere_e at hf
  refine xs_aload_n d170_0 rfl ?_
  refine xe_getc (j := 0) d170_1 ky170 fl168 fk12_7 rfl ?_
  refine xs_iconst (v := 3) d170_4 (by decide) ?_
  refine xe_iald d170_5 (by decide) ak52 (show xib (3 : Int32) 80 by decide) ?_
  refine xs_bipush (v := 8) d170_6 (by decide) ?_
  rcases lk_if hf with ⟨hc1, hf⟩ | ⟨hc1, hf⟩
  · refine xs_icmp_ne (tgt := 18) d170_8 (by decide) (fun _ => ?_) (fun hn => absurd hc1 hn)
    refine xs_aload_n d170_11 rfl ?_
    refine xs_iconst (v := 4) d170_12 (by decide) ?_
    refine xs_iload_n d170_13 rfl ?_
    obtain ⟨q4, hc3, hf⟩ := lk_b hf
    refine xe_callv1 (as := [xi (4 : Int32), xi v1]) (st := []) (h2 := q4.2) (d2 := d - 1) d170_14 ky170 ml189 st145 (by decide) cn145 rfl na145 (Nat.le_of_ble_eq_true rfl) (by omega) (f_M_fails_ok (by omega) hc3) ?_
    obtain ⟨hz5, hf⟩ := lk_g hf
    obtain ⟨eR, eH⟩ := K0 _ _ (Option.some.inj hf).symm
    subst eR; subst eH
    exact xe_zret d170_17 hz5 rt170
  · refine xs_icmp_ne (tgt := 18) d170_8 (by decide) (fun hp => absurd hp hc1) (fun _ => ?_)
    refine xs_aload_n d170_18 rfl ?_
    obtain ⟨h8, hc7, hf⟩ := lk_b hf
    refine xe_callv0 (as := []) (st := []) (h2 := h8) (d2 := d - 1) d170_19 ky170 ml192 st150 (by decide) cn150 rfl na150 (Nat.le_of_ble_eq_true rfl) (by omega) (f_M_passWord_ok (by omega) hc7) ?_
    refine xs_aload_n d170_22 rfl ?_
    refine xe_getc (j := 0) d170_23 ky170 fl168 fk12_7 rfl ?_
    refine xs_iconst (v := 3) d170_26 (by decide) ?_
    refine xe_iald d170_27 (by decide) ak52 (show xib (3 : Int32) 80 by decide) ?_
    obtain ⟨v2_9, ev2_9, hf⟩ := lk_let hf
    refine xe_istore_n (v := v2_9) (ls2 := [(0, xr 12 (some 0)), (1, xi v1), (2, xi v2_9)]) d170_28 mx170 (by decide) ev2_9 rfl ?_
    refine xs_aload_n d170_29 rfl ?_
    refine xs_bipush (v := 64) d170_30 (by decide) ?_
    refine xs_iload_n d170_32 rfl ?_
    refine xs_iadd d170_33 ?_
    refine xs_iconst (v := 1) d170_34 (by decide) ?_
    refine xs_bipush (v := 20) d170_35 (by decide) ?_
    obtain ⟨q12, hc11, hf⟩ := lk_b hf
    refine xe_callv1 (as := [xi ((64 : Int32) + v2_9), xi (1 : Int32), xi (20 : Int32)]) (st := []) (h2 := q12.2) (d2 := d - 1) d170_37 ky170 ml193 st168 (by decide) cn168 rfl na168 (Nat.le_of_ble_eq_true rfl) (by omega) (f_M_cellHere_ok (by omega) hc11) ?_
    rcases lk_if hf with ⟨hc13, hf⟩ | ⟨hc13, hf⟩
    · refine xs_if_eq (tgt := 71) d170_40 (by decide) (fun _ => ?_) (fun hn => absurd hc13 hn)
      refine xs_iconst (v := 0) d170_71 (by decide) ?_
      obtain ⟨eR, eH⟩ := K0 _ _ (Option.some.inj hf).symm
      subst eR; subst eH
      exact xe_zret d170_72 (Or.inl rfl) rt170
    · refine xs_if_eq (tgt := 71) d170_40 (by decide) (fun hp => absurd hp hc13) (fun _ => ?_)
      refine xs_aload_n d170_43 rfl ?_
      refine xs_bipush (v := 44) d170_44 (by decide) ?_
      refine xs_iload_n d170_46 rfl ?_
      refine xs_iadd d170_47 ?_
      refine xs_iconst (v := 1) d170_48 (by decide) ?_
      refine xs_bipush (v := 40) d170_49 (by decide) ?_
      obtain ⟨q16, hc15, hf⟩ := lk_b hf
      refine xe_callv1 (as := [xi ((44 : Int32) + v2_9), xi (1 : Int32), xi (40 : Int32)]) (st := []) (h2 := q16.2) (d2 := d - 1) d170_51 ky170 ml193 st168 (by decide) cn168 rfl na168 (Nat.le_of_ble_eq_true rfl) (by omega) (f_M_cellHere_ok (by omega) hc15) ?_
      rcases lk_if hf with ⟨hc17, hf⟩ | ⟨hc17, hf⟩
      · refine xs_if_eq (tgt := 71) d170_54 (by decide) (fun _ => ?_) (fun hn => absurd hc17 hn)
        refine xs_iconst (v := 0) d170_71 (by decide) ?_
        obtain ⟨eR, eH⟩ := K0 _ _ (Option.some.inj hf).symm
        subst eR; subst eH
        exact xe_zret d170_72 (Or.inl rfl) rt170
      · refine xs_if_eq (tgt := 71) d170_54 (by decide) (fun hp => absurd hp hc17) (fun _ => ?_)
        refine xs_aload_n d170_57 rfl ?_
        refine xs_bipush (v := 52) d170_58 (by decide) ?_
        refine xs_iload_n d170_60 rfl ?_
        refine xs_iadd d170_61 ?_
        refine xs_iconst (v := 0) d170_62 (by decide) ?_
        refine xs_bipush (v := 30) d170_63 (by decide) ?_
        obtain ⟨q20, hc19, hf⟩ := lk_b hf
        refine xe_callv1 (as := [xi ((52 : Int32) + v2_9), xi (0 : Int32), xi (30 : Int32)]) (st := []) (h2 := q20.2) (d2 := d - 1) d170_65 ky170 ml193 st168 (by decide) cn168 rfl na168 (Nat.le_of_ble_eq_true rfl) (by omega) (f_M_cellHere_ok (by omega) hc19) ?_
        rcases lk_if hf with ⟨hc21, hf⟩ | ⟨hc21, hf⟩
        · refine xs_if_ne (tgt := 73) d170_68 (by decide) (fun _ => ?_) (fun hn => absurd hc21 hn)
          refine xs_iconst (v := 0) d170_71 (by decide) ?_
          obtain ⟨eR, eH⟩ := K0 _ _ (Option.some.inj hf).symm
          subst eR; subst eH
          exact xe_zret d170_72 (Or.inl rfl) rt170
        · refine xs_if_ne (tgt := 73) d170_68 (by decide) (fun hp => absurd hp hc21) (fun _ => ?_)
          refine xs_aload_n d170_73 rfl ?_
          refine xe_getc (j := 0) d170_74 ky170 fl168 fk12_7 rfl ?_
          refine xs_iconst (v := 3) d170_77 (by decide) ?_
          refine xs_dup2 d170_78 rfl rfl ?_
          refine xe_iald d170_79 (by decide) ak52 (show xib (3 : Int32) 80 by decide) ?_
          refine xs_iconst (v := 1) d170_80 (by decide) ?_
          refine xs_iadd d170_81 ?_
          obtain ⟨h22, eh22, hf⟩ := lk_let hf
          refine xe_iast d170_82 (by decide) ak52 (show xib (3 : Int32) 80 by decide)  eh22 ?_
          refine xs_iconst (v := 1) d170_83 (by decide) ?_
          obtain ⟨eR, eH⟩ := K0 _ _ (Option.some.inj hf).symm
          subst eR; subst eH
          exact xe_zret d170_84 (Or.inr rfl) rt170
noncomputable def f_M_isSorrowHere (v1 : Int32) (h : xH) : Option (Int32 × xH) := f_M_isSorrowHere_e v1 h
theorem f_M_isSorrowHere_ok {g : xG} {l : Launch} {d : Nat} {v1 : Int32} {h : xH} {r : Int32} {h1 : xH} (hD : 3 ≤ d) (hf : f_M_isSorrowHere v1 h = some (r, h1)) : xC g l d 170 [xr 12 (some 0), xi v1] h (some (xi r)) h1 :=
  xC_of2 (by decide) mx170 (Nat.le_of_ble_eq_true rfl) (f_M_isSorrowHere_e_ok hD hf (fun _ _ e => by cases e; exact ⟨rfl, rfl⟩))
theorem d171_0 : decode (xcode 171) 0 = .ok (.aload_n 0, 1) := by decide +kernel
theorem d171_1 : decode (xcode 171) 1 = .ok (.invokevirtual 111, 3) := by decide +kernel
theorem d171_4 : decode (xcode 171) 4 = .ok (.aload_n 0, 1) := by decide +kernel
theorem d171_5 : decode (xcode 171) 5 = .ok (.iconst 0, 1) := by decide +kernel
theorem d171_6 : decode (xcode 171) 6 = .ok (.aload_n 0, 1) := by decide +kernel
theorem d171_7 : decode (xcode 171) 7 = .ok (.getfield 26, 3) := by decide +kernel
theorem d171_10 : decode (xcode 171) 10 = .ok (.iconst 3, 1) := by decide +kernel
theorem d171_11 : decode (xcode 171) 11 = .ok (.iaload, 1) := by decide +kernel
theorem d171_12 : decode (xcode 171) 12 = .ok (.iconst 1, 1) := by decide +kernel
theorem d171_13 : decode (xcode 171) 13 = .ok (.isub, 1) := by decide +kernel
theorem d171_14 : decode (xcode 171) 14 = .ok (.invokevirtual 173, 3) := by decide +kernel
theorem d171_17 : decode (xcode 171) 17 = .ok (.ifCond .ne 5, 3) := by decide +kernel
theorem d171_20 : decode (xcode 171) 20 = .ok (.iconst 0, 1) := by decide +kernel
theorem d171_21 : decode (xcode 171) 21 = .ok (.ireturn, 1) := by decide +kernel
theorem d171_22 : decode (xcode 171) 22 = .ok (.aload_n 0, 1) := by decide +kernel
theorem d171_23 : decode (xcode 171) 23 = .ok (.getfield 121, 3) := by decide +kernel
theorem d171_26 : decode (xcode 171) 26 = .ok (.istore_n 1, 1) := by decide +kernel
theorem d171_27 : decode (xcode 171) 27 = .ok (.aload_n 0, 1) := by decide +kernel
theorem d171_28 : decode (xcode 171) 28 = .ok (.invokevirtual 99, 3) := by decide +kernel
theorem d171_31 : decode (xcode 171) 31 = .ok (.pop, 1) := by decide +kernel
theorem d171_32 : decode (xcode 171) 32 = .ok (.aload_n 0, 1) := by decide +kernel
theorem d171_33 : decode (xcode 171) 33 = .ok (.getfield 96, 3) := by decide +kernel
theorem d171_36 : decode (xcode 171) 36 = .ok (.istore_n 2, 1) := by decide +kernel
theorem d171_37 : decode (xcode 171) 37 = .ok (.aload_n 0, 1) := by decide +kernel
theorem d171_38 : decode (xcode 171) 38 = .ok (.iconst 0, 1) := by decide +kernel
theorem d171_39 : decode (xcode 171) 39 = .ok (.aload_n 0, 1) := by decide +kernel
theorem d171_40 : decode (xcode 171) 40 = .ok (.getfield 26, 3) := by decide +kernel
theorem d171_43 : decode (xcode 171) 43 = .ok (.iconst 3, 1) := by decide +kernel
theorem d171_44 : decode (xcode 171) 44 = .ok (.iaload, 1) := by decide +kernel
theorem d171_45 : decode (xcode 171) 45 = .ok (.iconst 1, 1) := by decide +kernel
theorem d171_46 : decode (xcode 171) 46 = .ok (.isub, 1) := by decide +kernel
theorem d171_47 : decode (xcode 171) 47 = .ok (.invokevirtual 173, 3) := by decide +kernel
theorem d171_50 : decode (xcode 171) 50 = .ok (.ifCond .ne 5, 3) := by decide +kernel
theorem d171_53 : decode (xcode 171) 53 = .ok (.iconst 0, 1) := by decide +kernel
theorem d171_54 : decode (xcode 171) 54 = .ok (.ireturn, 1) := by decide +kernel
theorem d171_55 : decode (xcode 171) 55 = .ok (.iload_n 1, 1) := by decide +kernel
theorem d171_56 : decode (xcode 171) 56 = .ok (.aload_n 0, 1) := by decide +kernel
theorem d171_57 : decode (xcode 171) 57 = .ok (.getfield 121, 3) := by decide +kernel
theorem d171_60 : decode (xcode 171) 60 = .ok (.if_icmp .ne 10, 3) := by decide +kernel
theorem d171_63 : decode (xcode 171) 63 = .ok (.aload_n 0, 1) := by decide +kernel
theorem d171_64 : decode (xcode 171) 64 = .ok (.iconst 1, 1) := by decide +kernel
theorem d171_65 : decode (xcode 171) 65 = .ok (.iload_n 2, 1) := by decide +kernel
theorem d171_66 : decode (xcode 171) 66 = .ok (.invokevirtual 117, 3) := by decide +kernel
theorem d171_69 : decode (xcode 171) 69 = .ok (.ireturn, 1) := by decide +kernel
theorem d171_70 : decode (xcode 171) 70 = .ok (.aload_n 0, 1) := by decide +kernel
theorem d171_71 : decode (xcode 171) 71 = .ok (.getfield 26, 3) := by decide +kernel
theorem d171_74 : decode (xcode 171) 74 = .ok (.bipush 72, 2) := by decide +kernel
theorem d171_76 : decode (xcode 171) 76 = .ok (.iload_n 1, 1) := by decide +kernel
theorem d171_77 : decode (xcode 171) 77 = .ok (.iadd, 1) := by decide +kernel
theorem d171_78 : decode (xcode 171) 78 = .ok (.dup2, 1) := by decide +kernel
theorem d171_79 : decode (xcode 171) 79 = .ok (.iaload, 1) := by decide +kernel
theorem d171_80 : decode (xcode 171) 80 = .ok (.iconst 1, 1) := by decide +kernel
theorem d171_81 : decode (xcode 171) 81 = .ok (.aload_n 0, 1) := by decide +kernel
theorem d171_82 : decode (xcode 171) 82 = .ok (.getfield 121, 3) := by decide +kernel
theorem d171_85 : decode (xcode 171) 85 = .ok (.ishl, 1) := by decide +kernel
theorem d171_86 : decode (xcode 171) 86 = .ok (.ior, 1) := by decide +kernel
theorem d171_87 : decode (xcode 171) 87 = .ok (.iastore, 1) := by decide +kernel
theorem d171_88 : decode (xcode 171) 88 = .ok (.iconst 1, 1) := by decide +kernel
theorem d171_89 : decode (xcode 171) 89 = .ok (.ireturn, 1) := by decide +kernel
noncomputable def f_M_isUnderHere_e (h : xH) : Option (Int32 × xH) :=
  (f_M_passWord h).bind fun h3 =>
  (f_M_numberHere (0 : Int32) ((h3.2.2.2.1 52 0 ((3 : Int32)).toNatClampNeg) - (1 : Int32)) h3).bind fun q6 =>
  if q6.1 = (0 : Int32) then (
  some (((0 : Int32), q6.2))) else (
  xlet (q6.2.1 12 10 0) fun v1_8 =>
  (f_M_see q6.2).bind fun q11 =>
  xlet (q11.2.1 12 8 0) fun v2_12 =>
  (f_M_numberHere (0 : Int32) ((q11.2.2.2.2.1 52 0 ((3 : Int32)).toNatClampNeg) - (1 : Int32)) q11.2).bind fun q15 =>
  if q15.1 = (0 : Int32) then (
  some (((0 : Int32), q15.2))) else (
  if v1_8 = (q15.2.1 12 10 0) then (
  (f_M_fails (1 : Int32) v2_12 q15.2).bind fun q20 =>
  if q20.1 = 0 ∨ q20.1 = 1 then (
  some ((q20.1, q20.2))) else none) else (
  if xib ((72 : Int32) + v1_8) 80 then (
  if xib ((72 : Int32) + v1_8) 80 then (
  xlet (xsA q15.2 52 0 (upd (q15.2.2.2.2.1 52 0) ((72 : Int32) + v1_8).toNatClampNeg ((q15.2.2.2.2.1 52 0 ((72 : Int32) + v1_8).toNatClampNeg) ||| ((1 : Int32) <<< ((q15.2.1 12 10 0) &&& 31))))) fun h24 =>
  some (((1 : Int32), h24))) else none) else none)))
set_option maxHeartbeats 4000000 in
set_option maxRecDepth 100000 in
theorem f_M_isUnderHere_e_ok {g : xG} {l : Launch} {d : Nat} {h : xH} {o : (Int32 × xH)} {R : Option xV} {H' : xH} (hD : 2 ≤ d) (hf : f_M_isUnderHere_e h = some o) (K0 : ∀ (a : Int32) (h1 : xH), o = (a, h1) → R = some (xi a) ∧ H' = h1) : xEv g l d 171 0 [(0, xr 12 (some 0))] [] h R H' := by
  unfold f_M_isUnderHere_e at hf
  refine xs_aload_n d171_0 rfl ?_
  obtain ⟨h3, hc2, hf⟩ := lk_b hf
  refine xe_callv0 (as := []) (st := []) (h2 := h3) (d2 := d - 1) d171_1 ky171 ml192 st150 (by decide) cn150 rfl na150 (Nat.le_of_ble_eq_true rfl) (by omega) (f_M_passWord_ok (by omega) hc2) ?_
  refine xs_aload_n d171_4 rfl ?_
  refine xs_iconst (v := 0) d171_5 (by decide) ?_
  refine xs_aload_n d171_6 rfl ?_
  refine xe_getc (j := 0) d171_7 ky171 fl168 fk12_7 rfl ?_
  refine xs_iconst (v := 3) d171_10 (by decide) ?_
  refine xe_iald d171_11 (by decide) ak52 (show xib (3 : Int32) 80 by decide) ?_
  refine xs_iconst (v := 1) d171_12 (by decide) ?_
  refine xs_isub d171_13 ?_
  obtain ⟨q6, hc5, hf⟩ := lk_b hf
  refine xe_callv1 (as := [xi (0 : Int32), xi ((h3.2.2.2.1 52 0 ((3 : Int32)).toNatClampNeg) - (1 : Int32))]) (st := []) (h2 := q6.2) (d2 := d - 1) d171_14 ky171 ml194 st152 (by decide) cn152 rfl na152 (Nat.le_of_ble_eq_true rfl) (by omega) (f_M_numberHere_ok (by omega) hc5) ?_
  rcases lk_if hf with ⟨hc7, hf⟩ | ⟨hc7, hf⟩
  · refine xs_if_ne (tgt := 22) d171_17 (by decide) (fun _ => ?_) (fun hn => absurd hc7 hn)
    refine xs_iconst (v := 0) d171_20 (by decide) ?_
    obtain ⟨eR, eH⟩ := K0 _ _ (Option.some.inj hf).symm
    subst eR; subst eH
    exact xe_zret d171_21 (Or.inl rfl) rt171
  · refine xs_if_ne (tgt := 22) d171_17 (by decide) (fun hp => absurd hp hc7) (fun _ => ?_)
    refine xs_aload_n d171_22 rfl ?_
    refine xe_geti d171_23 ky171 fl171 fk12_10 ?_
    obtain ⟨v1_8, ev1_8, hf⟩ := lk_let hf
    refine xe_istore_n (v := v1_8) (ls2 := [(0, xr 12 (some 0)), (1, xi v1_8)]) d171_26 mx171 (by decide) ev1_8 rfl ?_
    refine xs_aload_n d171_27 rfl ?_
    obtain ⟨q11, hc10, hf⟩ := lk_b hf
    refine xe_callv1 (as := []) (st := []) (h2 := q11.2) (d2 := d - 1) d171_28 ky171 ml185 st146 (by decide) cn146 rfl na146 (Nat.le_of_ble_eq_true rfl) (by omega) (f_M_see_ok (by omega) hc10) ?_
    refine xs_pop d171_31 rfl ?_
    refine xs_aload_n d171_32 rfl ?_
    refine xe_geti d171_33 ky171 fl169 fk12_8 ?_
    obtain ⟨v2_12, ev2_12, hf⟩ := lk_let hf
    refine xe_istore_n (v := v2_12) (ls2 := [(0, xr 12 (some 0)), (1, xi v1_8), (2, xi v2_12)]) d171_36 mx171 (by decide) ev2_12 rfl ?_
    refine xs_aload_n d171_37 rfl ?_
    refine xs_iconst (v := 0) d171_38 (by decide) ?_
    refine xs_aload_n d171_39 rfl ?_
    refine xe_getc (j := 0) d171_40 ky171 fl168 fk12_7 rfl ?_
    refine xs_iconst (v := 3) d171_43 (by decide) ?_
    refine xe_iald d171_44 (by decide) ak52 (show xib (3 : Int32) 80 by decide) ?_
    refine xs_iconst (v := 1) d171_45 (by decide) ?_
    refine xs_isub d171_46 ?_
    obtain ⟨q15, hc14, hf⟩ := lk_b hf
    refine xe_callv1 (as := [xi (0 : Int32), xi ((q11.2.2.2.2.1 52 0 ((3 : Int32)).toNatClampNeg) - (1 : Int32))]) (st := []) (h2 := q15.2) (d2 := d - 1) d171_47 ky171 ml194 st152 (by decide) cn152 rfl na152 (Nat.le_of_ble_eq_true rfl) (by omega) (f_M_numberHere_ok (by omega) hc14) ?_
    rcases lk_if hf with ⟨hc16, hf⟩ | ⟨hc16, hf⟩
    · refine xs_if_ne (tgt := 55) d171_50 (by decide) (fun _ => ?_) (fun hn => absurd hc16 hn)
      refine xs_iconst (v := 0) d171_53 (by decide) ?_
      obtain ⟨eR, eH⟩ := K0 _ _ (Option.some.inj hf).symm
      subst eR; subst eH
      exact xe_zret d171_54 (Or.inl rfl) rt171
    · refine xs_if_ne (tgt := 55) d171_50 (by decide) (fun hp => absurd hp hc16) (fun _ => ?_)
      refine xs_iload_n d171_55 rfl ?_
      refine xs_aload_n d171_56 rfl ?_
      refine xe_geti d171_57 ky171 fl171 fk12_10 ?_
      rcases lk_if hf with ⟨hc17, hf⟩ | ⟨hc17, hf⟩
      · refine xs_icmp_ne (tgt := 70) d171_60 (by decide) (fun _ => ?_) (fun hn => absurd hc17 hn)
        refine xs_aload_n d171_63 rfl ?_
        refine xs_iconst (v := 1) d171_64 (by decide) ?_
        refine xs_iload_n d171_65 rfl ?_
        obtain ⟨q20, hc19, hf⟩ := lk_b hf
        refine xe_callv1 (as := [xi (1 : Int32), xi v2_12]) (st := []) (h2 := q20.2) (d2 := d - 1) d171_66 ky171 ml189 st145 (by decide) cn145 rfl na145 (Nat.le_of_ble_eq_true rfl) (by omega) (f_M_fails_ok (by omega) hc19) ?_
        obtain ⟨hz21, hf⟩ := lk_g hf
        obtain ⟨eR, eH⟩ := K0 _ _ (Option.some.inj hf).symm
        subst eR; subst eH
        exact xe_zret d171_69 hz21 rt171
      · refine xs_icmp_ne (tgt := 70) d171_60 (by decide) (fun hp => absurd hp hc17) (fun _ => ?_)
        refine xs_aload_n d171_70 rfl ?_
        refine xe_getc (j := 0) d171_71 ky171 fl168 fk12_7 rfl ?_
        refine xs_bipush (v := 72) d171_74 (by decide) ?_
        refine xs_iload_n d171_76 rfl ?_
        refine xs_iadd d171_77 ?_
        refine xs_dup2 d171_78 rfl rfl ?_
        obtain ⟨hin22, hf⟩ := lk_g hf
        refine xe_iald d171_79 (by decide) ak52 hin22 ?_
        refine xs_iconst (v := 1) d171_80 (by decide) ?_
        refine xs_aload_n d171_81 rfl ?_
        refine xe_geti d171_82 ky171 fl171 fk12_10 ?_
        refine xs_ishl d171_85 ?_
        refine xs_ior d171_86 ?_
        obtain ⟨hin23, hf⟩ := lk_g hf
        obtain ⟨h24, eh24, hf⟩ := lk_let hf
        refine xe_iast d171_87 (by decide) ak52 hin23  eh24 ?_
        refine xs_iconst (v := 1) d171_88 (by decide) ?_
        obtain ⟨eR, eH⟩ := K0 _ _ (Option.some.inj hf).symm
        subst eR; subst eH
        exact xe_zret d171_89 (Or.inr rfl) rt171
noncomputable def f_M_isUnderHere (h : xH) : Option (Int32 × xH) := f_M_isUnderHere_e h
theorem f_M_isUnderHere_ok {g : xG} {l : Launch} {d : Nat} {h : xH} {r : Int32} {h1 : xH} (hD : 2 ≤ d) (hf : f_M_isUnderHere h = some (r, h1)) : xC g l d 171 [xr 12 (some 0)] h (some (xi r)) h1 :=
  xC_of2 (by decide) mx171 (Nat.le_of_ble_eq_true rfl) (f_M_isUnderHere_e_ok hD hf (fun _ _ e => by cases e; exact ⟨rfl, rfl⟩))
theorem d172_0 : decode (xcode 172) 0 = .ok (.aload_n 0, 1) := by decide +kernel
theorem d172_1 : decode (xcode 172) 1 = .ok (.getfield 26, 3) := by decide +kernel
theorem d172_4 : decode (xcode 172) 4 = .ok (.iconst 4, 1) := by decide +kernel
theorem d172_5 : decode (xcode 172) 5 = .ok (.iaload, 1) := by decide +kernel
theorem d172_6 : decode (xcode 172) 6 = .ok (.iconst 4, 1) := by decide +kernel
theorem d172_7 : decode (xcode 172) 7 = .ok (.if_icmp .ne 10, 3) := by decide +kernel
theorem d172_10 : decode (xcode 172) 10 = .ok (.aload_n 0, 1) := by decide +kernel
theorem d172_11 : decode (xcode 172) 11 = .ok (.iconst 4, 1) := by decide +kernel
theorem d172_12 : decode (xcode 172) 12 = .ok (.iload_n 1, 1) := by decide +kernel
theorem d172_13 : decode (xcode 172) 13 = .ok (.invokevirtual 117, 3) := by decide +kernel
theorem d172_16 : decode (xcode 172) 16 = .ok (.ireturn, 1) := by decide +kernel
theorem d172_17 : decode (xcode 172) 17 = .ok (.aload_n 0, 1) := by decide +kernel
theorem d172_18 : decode (xcode 172) 18 = .ok (.invokevirtual 111, 3) := by decide +kernel
theorem d172_21 : decode (xcode 172) 21 = .ok (.aload_n 0, 1) := by decide +kernel
theorem d172_22 : decode (xcode 172) 22 = .ok (.bipush 60, 2) := by decide +kernel
theorem d172_24 : decode (xcode 172) 24 = .ok (.aload_n 0, 1) := by decide +kernel
theorem d172_25 : decode (xcode 172) 25 = .ok (.getfield 26, 3) := by decide +kernel
theorem d172_28 : decode (xcode 172) 28 = .ok (.iconst 4, 1) := by decide +kernel
theorem d172_29 : decode (xcode 172) 29 = .ok (.iaload, 1) := by decide +kernel
theorem d172_30 : decode (xcode 172) 30 = .ok (.iadd, 1) := by decide +kernel
theorem d172_31 : decode (xcode 172) 31 = .ok (.iconst 1, 1) := by decide +kernel
theorem d172_32 : decode (xcode 172) 32 = .ok (.bipush 60, 2) := by decide +kernel
theorem d172_34 : decode (xcode 172) 34 = .ok (.invokevirtual 224, 3) := by decide +kernel
theorem d172_37 : decode (xcode 172) 37 = .ok (.ifCond .ne 5, 3) := by decide +kernel
theorem d172_40 : decode (xcode 172) 40 = .ok (.iconst 0, 1) := by decide +kernel
theorem d172_41 : decode (xcode 172) 41 = .ok (.ireturn, 1) := by decide +kernel
theorem d172_42 : decode (xcode 172) 42 = .ok (.aload_n 0, 1) := by decide +kernel
theorem d172_43 : decode (xcode 172) 43 = .ok (.getfield 26, 3) := by decide +kernel
theorem d172_46 : decode (xcode 172) 46 = .ok (.iconst 4, 1) := by decide +kernel
theorem d172_47 : decode (xcode 172) 47 = .ok (.dup2, 1) := by decide +kernel
theorem d172_48 : decode (xcode 172) 48 = .ok (.iaload, 1) := by decide +kernel
theorem d172_49 : decode (xcode 172) 49 = .ok (.iconst 1, 1) := by decide +kernel
theorem d172_50 : decode (xcode 172) 50 = .ok (.iadd, 1) := by decide +kernel
theorem d172_51 : decode (xcode 172) 51 = .ok (.iastore, 1) := by decide +kernel
theorem d172_52 : decode (xcode 172) 52 = .ok (.iconst 1, 1) := by decide +kernel
theorem d172_53 : decode (xcode 172) 53 = .ok (.ireturn, 1) := by decide +kernel
noncomputable def f_M_isCarrierHere_e (v1 : Int32) (h : xH) : Option (Int32 × xH) :=
  if (h.2.2.2.1 52 0 ((4 : Int32)).toNatClampNeg) = (4 : Int32) then (
  (f_M_fails (4 : Int32) v1 h).bind fun q4 =>
  if q4.1 = 0 ∨ q4.1 = 1 then (
  some ((q4.1, q4.2))) else none) else (
  (f_M_passWord h).bind fun h8 =>
  (f_M_cellHere ((60 : Int32) + (h8.2.2.2.1 52 0 ((4 : Int32)).toNatClampNeg)) (1 : Int32) (60 : Int32) h8).bind fun q11 =>
  if q11.1 = (0 : Int32) then (
  some (((0 : Int32), q11.2))) else (
  xlet (xsA q11.2 52 0 (upd (q11.2.2.2.2.1 52 0) ((4 : Int32)).toNatClampNeg ((q11.2.2.2.2.1 52 0 ((4 : Int32)).toNatClampNeg) + (1 : Int32)))) fun h13 =>
  some (((1 : Int32), h13))))
set_option maxHeartbeats 4000000 in
set_option maxRecDepth 100000 in
theorem f_M_isCarrierHere_e_ok {g : xG} {l : Launch} {d : Nat} {v1 : Int32} {h : xH} {o : (Int32 × xH)} {R : Option xV} {H' : xH} (hD : 3 ≤ d) (hf : f_M_isCarrierHere_e v1 h = some o) (K0 : ∀ (a : Int32) (h1 : xH), o = (a, h1) → R = some (xi a) ∧ H' = h1) : xEv g l d 172 0 [(0, xr 12 (some 0)), (1, xi v1)] [] h R H' := by
  unfold f_M_isCarrierHere_e at hf
  refine xs_aload_n d172_0 rfl ?_
  refine xe_getc (j := 0) d172_1 ky172 fl168 fk12_7 rfl ?_
  refine xs_iconst (v := 4) d172_4 (by decide) ?_
  refine xe_iald d172_5 (by decide) ak52 (show xib (4 : Int32) 80 by decide) ?_
  refine xs_iconst (v := 4) d172_6 (by decide) ?_
  rcases lk_if hf with ⟨hc1, hf⟩ | ⟨hc1, hf⟩
  · refine xs_icmp_ne (tgt := 17) d172_7 (by decide) (fun _ => ?_) (fun hn => absurd hc1 hn)
    refine xs_aload_n d172_10 rfl ?_
    refine xs_iconst (v := 4) d172_11 (by decide) ?_
    refine xs_iload_n d172_12 rfl ?_
    obtain ⟨q4, hc3, hf⟩ := lk_b hf
    refine xe_callv1 (as := [xi (4 : Int32), xi v1]) (st := []) (h2 := q4.2) (d2 := d - 1) d172_13 ky172 ml189 st145 (by decide) cn145 rfl na145 (Nat.le_of_ble_eq_true rfl) (by omega) (f_M_fails_ok (by omega) hc3) ?_
    obtain ⟨hz5, hf⟩ := lk_g hf
    obtain ⟨eR, eH⟩ := K0 _ _ (Option.some.inj hf).symm
    subst eR; subst eH
    exact xe_zret d172_16 hz5 rt172
  · refine xs_icmp_ne (tgt := 17) d172_7 (by decide) (fun hp => absurd hp hc1) (fun _ => ?_)
    refine xs_aload_n d172_17 rfl ?_
    obtain ⟨h8, hc7, hf⟩ := lk_b hf
    refine xe_callv0 (as := []) (st := []) (h2 := h8) (d2 := d - 1) d172_18 ky172 ml192 st150 (by decide) cn150 rfl na150 (Nat.le_of_ble_eq_true rfl) (by omega) (f_M_passWord_ok (by omega) hc7) ?_
    refine xs_aload_n d172_21 rfl ?_
    refine xs_bipush (v := 60) d172_22 (by decide) ?_
    refine xs_aload_n d172_24 rfl ?_
    refine xe_getc (j := 0) d172_25 ky172 fl168 fk12_7 rfl ?_
    refine xs_iconst (v := 4) d172_28 (by decide) ?_
    refine xe_iald d172_29 (by decide) ak52 (show xib (4 : Int32) 80 by decide) ?_
    refine xs_iadd d172_30 ?_
    refine xs_iconst (v := 1) d172_31 (by decide) ?_
    refine xs_bipush (v := 60) d172_32 (by decide) ?_
    obtain ⟨q11, hc10, hf⟩ := lk_b hf
    refine xe_callv1 (as := [xi ((60 : Int32) + (h8.2.2.2.1 52 0 ((4 : Int32)).toNatClampNeg)), xi (1 : Int32), xi (60 : Int32)]) (st := []) (h2 := q11.2) (d2 := d - 1) d172_34 ky172 ml193 st168 (by decide) cn168 rfl na168 (Nat.le_of_ble_eq_true rfl) (by omega) (f_M_cellHere_ok (by omega) hc10) ?_
    rcases lk_if hf with ⟨hc12, hf⟩ | ⟨hc12, hf⟩
    · refine xs_if_ne (tgt := 42) d172_37 (by decide) (fun _ => ?_) (fun hn => absurd hc12 hn)
      refine xs_iconst (v := 0) d172_40 (by decide) ?_
      obtain ⟨eR, eH⟩ := K0 _ _ (Option.some.inj hf).symm
      subst eR; subst eH
      exact xe_zret d172_41 (Or.inl rfl) rt172
    · refine xs_if_ne (tgt := 42) d172_37 (by decide) (fun hp => absurd hp hc12) (fun _ => ?_)
      refine xs_aload_n d172_42 rfl ?_
      refine xe_getc (j := 0) d172_43 ky172 fl168 fk12_7 rfl ?_
      refine xs_iconst (v := 4) d172_46 (by decide) ?_
      refine xs_dup2 d172_47 rfl rfl ?_
      refine xe_iald d172_48 (by decide) ak52 (show xib (4 : Int32) 80 by decide) ?_
      refine xs_iconst (v := 1) d172_49 (by decide) ?_
      refine xs_iadd d172_50 ?_
      obtain ⟨h13, eh13, hf⟩ := lk_let hf
      refine xe_iast d172_51 (by decide) ak52 (show xib (4 : Int32) 80 by decide)  eh13 ?_
      refine xs_iconst (v := 1) d172_52 (by decide) ?_
      obtain ⟨eR, eH⟩ := K0 _ _ (Option.some.inj hf).symm
      subst eR; subst eH
      exact xe_zret d172_53 (Or.inr rfl) rt172
noncomputable def f_M_isCarrierHere (v1 : Int32) (h : xH) : Option (Int32 × xH) := f_M_isCarrierHere_e v1 h
theorem f_M_isCarrierHere_ok {g : xG} {l : Launch} {d : Nat} {v1 : Int32} {h : xH} {r : Int32} {h1 : xH} (hD : 3 ≤ d) (hf : f_M_isCarrierHere v1 h = some (r, h1)) : xC g l d 172 [xr 12 (some 0), xi v1] h (some (xi r)) h1 :=
  xC_of2 (by decide) mx172 (Nat.le_of_ble_eq_true rfl) (f_M_isCarrierHere_e_ok hD hf (fun _ _ e => by cases e; exact ⟨rfl, rfl⟩))
theorem d173_0 : decode (xcode 173) 0 = .ok (.aload_n 0, 1) := by decide +kernel
theorem d173_1 : decode (xcode 173) 1 = .ok (.ldc2_w 228, 3) := by decide +kernel
theorem d173_4 : decode (xcode 173) 4 = .ok (.invokevirtual 107, 3) := by decide +kernel
theorem d173_7 : decode (xcode 173) 7 = .ok (.ifCond .eq 9, 3) := by decide +kernel
theorem d173_10 : decode (xcode 173) 10 = .ok (.aload_n 0, 1) := by decide +kernel
theorem d173_11 : decode (xcode 173) 11 = .ok (.iload_n 1, 1) := by decide +kernel
theorem d173_12 : decode (xcode 173) 12 = .ok (.invokevirtual 230, 3) := by decide +kernel
theorem d173_15 : decode (xcode 173) 15 = .ok (.ireturn, 1) := by decide +kernel
theorem d173_16 : decode (xcode 173) 16 = .ok (.aload_n 0, 1) := by decide +kernel
theorem d173_17 : decode (xcode 173) 17 = .ok (.getfield 26, 3) := by decide +kernel
theorem d173_20 : decode (xcode 173) 20 = .ok (.iconst 0, 1) := by decide +kernel
theorem d173_21 : decode (xcode 173) 21 = .ok (.iaload, 1) := by decide +kernel
theorem d173_22 : decode (xcode 173) 22 = .ok (.ifCond .ne 10, 3) := by decide +kernel
theorem d173_25 : decode (xcode 173) 25 = .ok (.aload_n 0, 1) := by decide +kernel
theorem d173_26 : decode (xcode 173) 26 = .ok (.iconst 4, 1) := by decide +kernel
theorem d173_27 : decode (xcode 173) 27 = .ok (.iload_n 1, 1) := by decide +kernel
theorem d173_28 : decode (xcode 173) 28 = .ok (.invokevirtual 117, 3) := by decide +kernel
theorem d173_31 : decode (xcode 173) 31 = .ok (.ireturn, 1) := by decide +kernel
theorem d173_32 : decode (xcode 173) 32 = .ok (.aload_n 0, 1) := by decide +kernel
theorem d173_33 : decode (xcode 173) 33 = .ok (.ldc2_w 128, 3) := by decide +kernel
theorem d173_36 : decode (xcode 173) 36 = .ok (.invokevirtual 107, 3) := by decide +kernel
theorem d173_39 : decode (xcode 173) 39 = .ok (.ifCond .eq 9, 3) := by decide +kernel
theorem d173_42 : decode (xcode 173) 42 = .ok (.aload_n 0, 1) := by decide +kernel
theorem d173_43 : decode (xcode 173) 43 = .ok (.iload_n 1, 1) := by decide +kernel
theorem d173_44 : decode (xcode 173) 44 = .ok (.invokevirtual 233, 3) := by decide +kernel
theorem d173_47 : decode (xcode 173) 47 = .ok (.ireturn, 1) := by decide +kernel
theorem d173_48 : decode (xcode 173) 48 = .ok (.aload_n 0, 1) := by decide +kernel
theorem d173_49 : decode (xcode 173) 49 = .ok (.ldc2_w 236, 3) := by decide +kernel
theorem d173_52 : decode (xcode 173) 52 = .ok (.invokevirtual 107, 3) := by decide +kernel
theorem d173_55 : decode (xcode 173) 55 = .ok (.ifCond .eq 10, 3) := by decide +kernel
theorem d173_58 : decode (xcode 173) 58 = .ok (.aload_n 0, 1) := by decide +kernel
theorem d173_59 : decode (xcode 173) 59 = .ok (.invokevirtual 238, 3) := by decide +kernel
theorem d173_62 : decode (xcode 173) 62 = .ok (.goto 8, 3) := by decide +kernel
theorem d173_65 : decode (xcode 173) 65 = .ok (.aload_n 0, 1) := by decide +kernel
theorem d173_66 : decode (xcode 173) 66 = .ok (.iload_n 1, 1) := by decide +kernel
theorem d173_67 : decode (xcode 173) 67 = .ok (.invokevirtual 241, 3) := by decide +kernel
theorem d173_70 : decode (xcode 173) 70 = .ok (.ireturn, 1) := by decide +kernel
noncomputable def f_M_trugLineHere_e (v1 : Int32) (h : xH) : Option (Int32 × xH) :=
  (f_M_isWord (1953658215 : Int64) h).bind fun q3 =>
  if q3.1 = (0 : Int32) then (
  if (q3.2.2.2.2.1 52 0 ((0 : Int32)).toNatClampNeg) = (0 : Int32) then (
  (f_M_fails (4 : Int32) v1 q3.2).bind fun q8 =>
  if q8.1 = 0 ∨ q8.1 = 1 then (
  some ((q8.1, q8.2))) else none) else (
  (f_M_isWord (126922498666359 : Int64) q3.2).bind fun q12 =>
  if q12.1 = (0 : Int32) then (
  (f_M_isWord (504363246962 : Int64) q12.2).bind fun q16 =>
  if q16.1 = (0 : Int32) then (
  (f_M_isCarrierHere v1 q16.2).bind fun q20 =>
  if q20.1 = 0 ∨ q20.1 = 1 then (
  some ((q20.1, q20.2))) else none) else (
  (f_M_isUnderHere q16.2).bind fun q24 =>
  if q24.1 = 0 ∨ q24.1 = 1 then (
  some ((q24.1, q24.2))) else none)) else (
  (f_M_isSorrowHere v1 q12.2).bind fun q28 =>
  if q28.1 = 0 ∨ q28.1 = 1 then (
  some ((q28.1, q28.2))) else none))) else (
  (f_M_isTrugHere v1 q3.2).bind fun q32 =>
  if q32.1 = 0 ∨ q32.1 = 1 then (
  some ((q32.1, q32.2))) else none)
set_option maxHeartbeats 4000000 in
set_option maxRecDepth 100000 in
theorem f_M_trugLineHere_e_ok {g : xG} {l : Launch} {d : Nat} {v1 : Int32} {h : xH} {o : (Int32 × xH)} {R : Option xV} {H' : xH} (hD : 4 ≤ d) (hf : f_M_trugLineHere_e v1 h = some o) (K0 : ∀ (a : Int32) (h1 : xH), o = (a, h1) → R = some (xi a) ∧ H' = h1) : xEv g l d 173 0 [(0, xr 12 (some 0)), (1, xi v1)] [] h R H' := by
  unfold f_M_trugLineHere_e at hf
  refine xs_aload_n d173_0 rfl ?_
  refine xs_ldc2 (v := 1953658215) d173_1 cl12_228 ?_
  obtain ⟨q3, hc2, hf⟩ := lk_b hf
  refine xe_callv1 (as := [xl (1953658215 : Int64)]) (st := []) (h2 := q3.2) (d2 := d - 1) d173_4 ky173 ml187 st149 (by decide) cn149 rfl na149 (Nat.le_of_ble_eq_true rfl) (by omega) (f_M_isWord_ok (by omega) hc2) ?_
  rcases lk_if hf with ⟨hc4, hf⟩ | ⟨hc4, hf⟩
  · refine xs_if_eq (tgt := 16) d173_7 (by decide) (fun _ => ?_) (fun hn => absurd hc4 hn)
    refine xs_aload_n d173_16 rfl ?_
    refine xe_getc (j := 0) d173_17 ky173 fl168 fk12_7 rfl ?_
    refine xs_iconst (v := 0) d173_20 (by decide) ?_
    refine xe_iald d173_21 (by decide) ak52 (show xib (0 : Int32) 80 by decide) ?_
    rcases lk_if hf with ⟨hc5, hf⟩ | ⟨hc5, hf⟩
    · refine xs_if_ne (tgt := 32) d173_22 (by decide) (fun _ => ?_) (fun hn => absurd hc5 hn)
      refine xs_aload_n d173_25 rfl ?_
      refine xs_iconst (v := 4) d173_26 (by decide) ?_
      refine xs_iload_n d173_27 rfl ?_
      obtain ⟨q8, hc7, hf⟩ := lk_b hf
      refine xe_callv1 (as := [xi (4 : Int32), xi v1]) (st := []) (h2 := q8.2) (d2 := d - 1) d173_28 ky173 ml189 st145 (by decide) cn145 rfl na145 (Nat.le_of_ble_eq_true rfl) (by omega) (f_M_fails_ok (by omega) hc7) ?_
      obtain ⟨hz9, hf⟩ := lk_g hf
      obtain ⟨eR, eH⟩ := K0 _ _ (Option.some.inj hf).symm
      subst eR; subst eH
      exact xe_zret d173_31 hz9 rt173
    · refine xs_if_ne (tgt := 32) d173_22 (by decide) (fun hp => absurd hp hc5) (fun _ => ?_)
      refine xs_aload_n d173_32 rfl ?_
      refine xs_ldc2 (v := 126922498666359) d173_33 cl12_128 ?_
      obtain ⟨q12, hc11, hf⟩ := lk_b hf
      refine xe_callv1 (as := [xl (126922498666359 : Int64)]) (st := []) (h2 := q12.2) (d2 := d - 1) d173_36 ky173 ml187 st149 (by decide) cn149 rfl na149 (Nat.le_of_ble_eq_true rfl) (by omega) (f_M_isWord_ok (by omega) hc11) ?_
      rcases lk_if hf with ⟨hc13, hf⟩ | ⟨hc13, hf⟩
      · refine xs_if_eq (tgt := 48) d173_39 (by decide) (fun _ => ?_) (fun hn => absurd hc13 hn)
        refine xs_aload_n d173_48 rfl ?_
        refine xs_ldc2 (v := 504363246962) d173_49 cl12_236 ?_
        obtain ⟨q16, hc15, hf⟩ := lk_b hf
        refine xe_callv1 (as := [xl (504363246962 : Int64)]) (st := []) (h2 := q16.2) (d2 := d - 1) d173_52 ky173 ml187 st149 (by decide) cn149 rfl na149 (Nat.le_of_ble_eq_true rfl) (by omega) (f_M_isWord_ok (by omega) hc15) ?_
        rcases lk_if hf with ⟨hc17, hf⟩ | ⟨hc17, hf⟩
        · refine xs_if_eq (tgt := 65) d173_55 (by decide) (fun _ => ?_) (fun hn => absurd hc17 hn)
          refine xs_aload_n d173_65 rfl ?_
          refine xs_iload_n d173_66 rfl ?_
          obtain ⟨q20, hc19, hf⟩ := lk_b hf
          refine xe_callv1 (as := [xi v1]) (st := []) (h2 := q20.2) (d2 := d - 1) d173_67 ky173 ml199 st172 (by decide) cn172 rfl na172 (Nat.le_of_ble_eq_true rfl) (by omega) (f_M_isCarrierHere_ok (by omega) hc19) ?_
          obtain ⟨hz21, hf⟩ := lk_g hf
          obtain ⟨eR, eH⟩ := K0 _ _ (Option.some.inj hf).symm
          subst eR; subst eH
          exact xe_zret d173_70 hz21 rt173
        · refine xs_if_eq (tgt := 65) d173_55 (by decide) (fun hp => absurd hp hc17) (fun _ => ?_)
          refine xs_aload_n d173_58 rfl ?_
          obtain ⟨q24, hc23, hf⟩ := lk_b hf
          refine xe_callv1 (as := []) (st := []) (h2 := q24.2) (d2 := d - 1) d173_59 ky173 ml198 st171 (by decide) cn171 rfl na171 (Nat.le_of_ble_eq_true rfl) (by omega) (f_M_isUnderHere_ok (by omega) hc23) ?_
          refine xs_goto (tgt := 70) d173_62 (by decide) ?_
          obtain ⟨hz25, hf⟩ := lk_g hf
          obtain ⟨eR, eH⟩ := K0 _ _ (Option.some.inj hf).symm
          subst eR; subst eH
          exact xe_zret d173_70 hz25 rt173
      · refine xs_if_eq (tgt := 48) d173_39 (by decide) (fun hp => absurd hp hc13) (fun _ => ?_)
        refine xs_aload_n d173_42 rfl ?_
        refine xs_iload_n d173_43 rfl ?_
        obtain ⟨q28, hc27, hf⟩ := lk_b hf
        refine xe_callv1 (as := [xi v1]) (st := []) (h2 := q28.2) (d2 := d - 1) d173_44 ky173 ml197 st170 (by decide) cn170 rfl na170 (Nat.le_of_ble_eq_true rfl) (by omega) (f_M_isSorrowHere_ok (by omega) hc27) ?_
        obtain ⟨hz29, hf⟩ := lk_g hf
        obtain ⟨eR, eH⟩ := K0 _ _ (Option.some.inj hf).symm
        subst eR; subst eH
        exact xe_zret d173_47 hz29 rt173
  · refine xs_if_eq (tgt := 16) d173_7 (by decide) (fun hp => absurd hp hc4) (fun _ => ?_)
    refine xs_aload_n d173_10 rfl ?_
    refine xs_iload_n d173_11 rfl ?_
    obtain ⟨q32, hc31, hf⟩ := lk_b hf
    refine xe_callv1 (as := [xi v1]) (st := []) (h2 := q32.2) (d2 := d - 1) d173_12 ky173 ml191 st169 (by decide) cn169 rfl na169 (Nat.le_of_ble_eq_true rfl) (by omega) (f_M_isTrugHere_ok (by omega) hc31) ?_
    obtain ⟨hz33, hf⟩ := lk_g hf
    obtain ⟨eR, eH⟩ := K0 _ _ (Option.some.inj hf).symm
    subst eR; subst eH
    exact xe_zret d173_15 hz33 rt173
noncomputable def f_M_trugLineHere (v1 : Int32) (h : xH) : Option (Int32 × xH) := f_M_trugLineHere_e v1 h
theorem f_M_trugLineHere_ok {g : xG} {l : Launch} {d : Nat} {v1 : Int32} {h : xH} {r : Int32} {h1 : xH} (hD : 4 ≤ d) (hf : f_M_trugLineHere v1 h = some (r, h1)) : xC g l d 173 [xr 12 (some 0), xi v1] h (some (xi r)) h1 :=
  xC_of2 (by decide) mx173 (Nat.le_of_ble_eq_true rfl) (f_M_trugLineHere_e_ok hD hf (fun _ _ e => by cases e; exact ⟨rfl, rfl⟩))
theorem d174_0 : decode (xcode 174) 0 = .ok (.aload_n 0, 1) := by decide +kernel
theorem d174_1 : decode (xcode 174) 1 = .ok (.ldc2_w 228, 3) := by decide +kernel
theorem d174_4 : decode (xcode 174) 4 = .ok (.invokevirtual 107, 3) := by decide +kernel
theorem d174_7 : decode (xcode 174) 7 = .ok (.ifCond .ne 33, 3) := by decide +kernel
theorem d174_10 : decode (xcode 174) 10 = .ok (.aload_n 0, 1) := by decide +kernel
theorem d174_11 : decode (xcode 174) 11 = .ok (.ldc2_w 128, 3) := by decide +kernel
theorem d174_14 : decode (xcode 174) 14 = .ok (.invokevirtual 107, 3) := by decide +kernel
theorem d174_17 : decode (xcode 174) 17 = .ok (.ifCond .ne 23, 3) := by decide +kernel
theorem d174_20 : decode (xcode 174) 20 = .ok (.aload_n 0, 1) := by decide +kernel
theorem d174_21 : decode (xcode 174) 21 = .ok (.ldc2_w 236, 3) := by decide +kernel
theorem d174_24 : decode (xcode 174) 24 = .ok (.invokevirtual 107, 3) := by decide +kernel
theorem d174_27 : decode (xcode 174) 27 = .ok (.ifCond .ne 13, 3) := by decide +kernel
theorem d174_30 : decode (xcode 174) 30 = .ok (.aload_n 0, 1) := by decide +kernel
theorem d174_31 : decode (xcode 174) 31 = .ok (.ldc2_w 244, 3) := by decide +kernel
theorem d174_34 : decode (xcode 174) 34 = .ok (.invokevirtual 107, 3) := by decide +kernel
theorem d174_37 : decode (xcode 174) 37 = .ok (.ifCond .eq 7, 3) := by decide +kernel
theorem d174_40 : decode (xcode 174) 40 = .ok (.iconst 1, 1) := by decide +kernel
theorem d174_41 : decode (xcode 174) 41 = .ok (.goto 4, 3) := by decide +kernel
theorem d174_44 : decode (xcode 174) 44 = .ok (.iconst 0, 1) := by decide +kernel
theorem d174_45 : decode (xcode 174) 45 = .ok (.ireturn, 1) := by decide +kernel
noncomputable def f_M_isTrugWord_e (h : xH) : Option (Int32 × xH) :=
  (f_M_isWord (1953658215 : Int64) h).bind fun q3 =>
  if q3.1 = (0 : Int32) then (
  (f_M_isWord (126922498666359 : Int64) q3.2).bind fun q7 =>
  if q7.1 = (0 : Int32) then (
  (f_M_isWord (504363246962 : Int64) q7.2).bind fun q11 =>
  if q11.1 = (0 : Int32) then (
  (f_M_isWord (27973166868030834 : Int64) q11.2).bind fun q15 =>
  if q15.1 = (0 : Int32) then (
  some (((0 : Int32), q15.2))) else (
  some (((1 : Int32), q15.2)))) else (
  some (((1 : Int32), q11.2)))) else (
  some (((1 : Int32), q7.2)))) else (
  some (((1 : Int32), q3.2)))
set_option maxHeartbeats 4000000 in
set_option maxRecDepth 100000 in
theorem f_M_isTrugWord_e_ok {g : xG} {l : Launch} {d : Nat} {h : xH} {o : (Int32 × xH)} {R : Option xV} {H' : xH} (hD : 2 ≤ d) (hf : f_M_isTrugWord_e h = some o) (K0 : ∀ (a : Int32) (h1 : xH), o = (a, h1) → R = some (xi a) ∧ H' = h1) : xEv g l d 174 0 [(0, xr 12 (some 0))] [] h R H' := by
  unfold f_M_isTrugWord_e at hf
  refine xs_aload_n d174_0 rfl ?_
  refine xs_ldc2 (v := 1953658215) d174_1 cl12_228 ?_
  obtain ⟨q3, hc2, hf⟩ := lk_b hf
  refine xe_callv1 (as := [xl (1953658215 : Int64)]) (st := []) (h2 := q3.2) (d2 := d - 1) d174_4 ky174 ml187 st149 (by decide) cn149 rfl na149 (Nat.le_of_ble_eq_true rfl) (by omega) (f_M_isWord_ok (by omega) hc2) ?_
  rcases lk_if hf with ⟨hc4, hf⟩ | ⟨hc4, hf⟩
  · refine xs_if_ne (tgt := 40) d174_7 (by decide) (fun _ => ?_) (fun hn => absurd hc4 hn)
    refine xs_aload_n d174_10 rfl ?_
    refine xs_ldc2 (v := 126922498666359) d174_11 cl12_128 ?_
    obtain ⟨q7, hc6, hf⟩ := lk_b hf
    refine xe_callv1 (as := [xl (126922498666359 : Int64)]) (st := []) (h2 := q7.2) (d2 := d - 1) d174_14 ky174 ml187 st149 (by decide) cn149 rfl na149 (Nat.le_of_ble_eq_true rfl) (by omega) (f_M_isWord_ok (by omega) hc6) ?_
    rcases lk_if hf with ⟨hc8, hf⟩ | ⟨hc8, hf⟩
    · refine xs_if_ne (tgt := 40) d174_17 (by decide) (fun _ => ?_) (fun hn => absurd hc8 hn)
      refine xs_aload_n d174_20 rfl ?_
      refine xs_ldc2 (v := 504363246962) d174_21 cl12_236 ?_
      obtain ⟨q11, hc10, hf⟩ := lk_b hf
      refine xe_callv1 (as := [xl (504363246962 : Int64)]) (st := []) (h2 := q11.2) (d2 := d - 1) d174_24 ky174 ml187 st149 (by decide) cn149 rfl na149 (Nat.le_of_ble_eq_true rfl) (by omega) (f_M_isWord_ok (by omega) hc10) ?_
      rcases lk_if hf with ⟨hc12, hf⟩ | ⟨hc12, hf⟩
      · refine xs_if_ne (tgt := 40) d174_27 (by decide) (fun _ => ?_) (fun hn => absurd hc12 hn)
        refine xs_aload_n d174_30 rfl ?_
        refine xs_ldc2 (v := 27973166868030834) d174_31 cl12_244 ?_
        obtain ⟨q15, hc14, hf⟩ := lk_b hf
        refine xe_callv1 (as := [xl (27973166868030834 : Int64)]) (st := []) (h2 := q15.2) (d2 := d - 1) d174_34 ky174 ml187 st149 (by decide) cn149 rfl na149 (Nat.le_of_ble_eq_true rfl) (by omega) (f_M_isWord_ok (by omega) hc14) ?_
        rcases lk_if hf with ⟨hc16, hf⟩ | ⟨hc16, hf⟩
        · refine xs_if_eq (tgt := 44) d174_37 (by decide) (fun _ => ?_) (fun hn => absurd hc16 hn)
          refine xs_iconst (v := 0) d174_44 (by decide) ?_
          obtain ⟨eR, eH⟩ := K0 _ _ (Option.some.inj hf).symm
          subst eR; subst eH
          exact xe_zret d174_45 (Or.inl rfl) rt174
        · refine xs_if_eq (tgt := 44) d174_37 (by decide) (fun hp => absurd hp hc16) (fun _ => ?_)
          refine xs_iconst (v := 1) d174_40 (by decide) ?_
          refine xs_goto (tgt := 45) d174_41 (by decide) ?_
          obtain ⟨eR, eH⟩ := K0 _ _ (Option.some.inj hf).symm
          subst eR; subst eH
          exact xe_zret d174_45 (Or.inr rfl) rt174
      · refine xs_if_ne (tgt := 40) d174_27 (by decide) (fun hp => absurd hp hc12) (fun _ => ?_)
        refine xs_iconst (v := 1) d174_40 (by decide) ?_
        refine xs_goto (tgt := 45) d174_41 (by decide) ?_
        obtain ⟨eR, eH⟩ := K0 _ _ (Option.some.inj hf).symm
        subst eR; subst eH
        exact xe_zret d174_45 (Or.inr rfl) rt174
    · refine xs_if_ne (tgt := 40) d174_17 (by decide) (fun hp => absurd hp hc8) (fun _ => ?_)
      refine xs_iconst (v := 1) d174_40 (by decide) ?_
      refine xs_goto (tgt := 45) d174_41 (by decide) ?_
      obtain ⟨eR, eH⟩ := K0 _ _ (Option.some.inj hf).symm
      subst eR; subst eH
      exact xe_zret d174_45 (Or.inr rfl) rt174
  · refine xs_if_ne (tgt := 40) d174_7 (by decide) (fun hp => absurd hp hc4) (fun _ => ?_)
    refine xs_iconst (v := 1) d174_40 (by decide) ?_
    refine xs_goto (tgt := 45) d174_41 (by decide) ?_
    obtain ⟨eR, eH⟩ := K0 _ _ (Option.some.inj hf).symm
    subst eR; subst eH
    exact xe_zret d174_45 (Or.inr rfl) rt174
noncomputable def f_M_isTrugWord (h : xH) : Option (Int32 × xH) := f_M_isTrugWord_e h
theorem f_M_isTrugWord_ok {g : xG} {l : Launch} {d : Nat} {h : xH} {r : Int32} {h1 : xH} (hD : 2 ≤ d) (hf : f_M_isTrugWord h = some (r, h1)) : xC g l d 174 [xr 12 (some 0)] h (some (xi r)) h1 :=
  xC_of2 (by decide) mx174 (Nat.le_of_ble_eq_true rfl) (f_M_isTrugWord_e_ok hD hf (fun _ _ e => by cases e; exact ⟨rfl, rfl⟩))
theorem d175_0 : decode (xcode 175) 0 = .ok (.aload_n 0, 1) := by decide +kernel
theorem d175_1 : decode (xcode 175) 1 = .ok (.invokevirtual 99, 3) := by decide +kernel
theorem d175_4 : decode (xcode 175) 4 = .ok (.pop, 1) := by decide +kernel
theorem d175_5 : decode (xcode 175) 5 = .ok (.aload_n 0, 1) := by decide +kernel
theorem d175_6 : decode (xcode 175) 6 = .ok (.getfield 96, 3) := by decide +kernel
theorem d175_9 : decode (xcode 175) 9 = .ok (.istore_n 1, 1) := by decide +kernel
theorem d175_10 : decode (xcode 175) 10 = .ok (.aload_n 0, 1) := by decide +kernel
theorem d175_11 : decode (xcode 175) 11 = .ok (.getfield 152, 3) := by decide +kernel
theorem d175_14 : decode (xcode 175) 14 = .ok (.bipush 6, 2) := by decide +kernel
theorem d175_16 : decode (xcode 175) 16 = .ok (.if_icmp .ne 7, 3) := by decide +kernel
theorem d175_19 : decode (xcode 175) 19 = .ok (.iconst 1, 1) := by decide +kernel
theorem d175_20 : decode (xcode 175) 20 = .ok (.goto 4, 3) := by decide +kernel
theorem d175_23 : decode (xcode 175) 23 = .ok (.iconst 0, 1) := by decide +kernel
theorem d175_24 : decode (xcode 175) 24 = .ok (.istore_n 2, 1) := by decide +kernel
theorem d175_25 : decode (xcode 175) 25 = .ok (.iload_n 2, 1) := by decide +kernel
theorem d175_26 : decode (xcode 175) 26 = .ok (.ifCond .eq 13, 3) := by decide +kernel
theorem d175_29 : decode (xcode 175) 29 = .ok (.aload_n 0, 1) := by decide +kernel
theorem d175_30 : decode (xcode 175) 30 = .ok (.invokevirtual 246, 3) := by decide +kernel
theorem d175_33 : decode (xcode 175) 33 = .ok (.ifCond .ne 23, 3) := by decide +kernel
theorem d175_36 : decode (xcode 175) 36 = .ok (.goto 13, 3) := by decide +kernel
theorem d175_39 : decode (xcode 175) 39 = .ok (.aload_n 0, 1) := by decide +kernel
theorem d175_40 : decode (xcode 175) 40 = .ok (.ldc2_w 249, 3) := by decide +kernel
theorem d175_43 : decode (xcode 175) 43 = .ok (.invokevirtual 107, 3) := by decide +kernel
theorem d175_46 : decode (xcode 175) 46 = .ok (.ifCond .ne 10, 3) := by decide +kernel
theorem d175_49 : decode (xcode 175) 49 = .ok (.aload_n 0, 1) := by decide +kernel
theorem d175_50 : decode (xcode 175) 50 = .ok (.iconst 0, 1) := by decide +kernel
theorem d175_51 : decode (xcode 175) 51 = .ok (.iload_n 1, 1) := by decide +kernel
theorem d175_52 : decode (xcode 175) 52 = .ok (.invokevirtual 117, 3) := by decide +kernel
theorem d175_55 : decode (xcode 175) 55 = .ok (.ireturn, 1) := by decide +kernel
theorem d175_56 : decode (xcode 175) 56 = .ok (.aload_n 0, 1) := by decide +kernel
theorem d175_57 : decode (xcode 175) 57 = .ok (.getfield 251, 3) := by decide +kernel
theorem d175_60 : decode (xcode 175) 60 = .ok (.iload_n 2, 1) := by decide +kernel
theorem d175_61 : decode (xcode 175) 61 = .ok (.ifCond .eq 8, 3) := by decide +kernel
theorem d175_64 : decode (xcode 175) 64 = .ok (.bipush 40, 2) := by decide +kernel
theorem d175_66 : decode (xcode 175) 66 = .ok (.goto 5, 3) := by decide +kernel
theorem d175_69 : decode (xcode 175) 69 = .ok (.bipush 12, 2) := by decide +kernel
theorem d175_71 : decode (xcode 175) 71 = .ok (.if_icmp .ne 10, 3) := by decide +kernel
theorem d175_74 : decode (xcode 175) 74 = .ok (.aload_n 0, 1) := by decide +kernel
theorem d175_75 : decode (xcode 175) 75 = .ok (.iconst 4, 1) := by decide +kernel
theorem d175_76 : decode (xcode 175) 76 = .ok (.iload_n 1, 1) := by decide +kernel
theorem d175_77 : decode (xcode 175) 77 = .ok (.invokevirtual 117, 3) := by decide +kernel
theorem d175_80 : decode (xcode 175) 80 = .ok (.ireturn, 1) := by decide +kernel
theorem d175_81 : decode (xcode 175) 81 = .ok (.aload_n 0, 1) := by decide +kernel
theorem d175_82 : decode (xcode 175) 82 = .ok (.dup, 1) := by decide +kernel
theorem d175_83 : decode (xcode 175) 83 = .ok (.getfield 251, 3) := by decide +kernel
theorem d175_86 : decode (xcode 175) 86 = .ok (.iconst 1, 1) := by decide +kernel
theorem d175_87 : decode (xcode 175) 87 = .ok (.iadd, 1) := by decide +kernel
theorem d175_88 : decode (xcode 175) 88 = .ok (.putfield 251, 3) := by decide +kernel
theorem d175_91 : decode (xcode 175) 91 = .ok (.iload_n 2, 1) := by decide +kernel
theorem d175_92 : decode (xcode 175) 92 = .ok (.ifCond .eq 11, 3) := by decide +kernel
theorem d175_95 : decode (xcode 175) 95 = .ok (.aload_n 0, 1) := by decide +kernel
theorem d175_96 : decode (xcode 175) 96 = .ok (.iload_n 1, 1) := by decide +kernel
theorem d175_97 : decode (xcode 175) 97 = .ok (.invokevirtual 254, 3) := by decide +kernel
theorem d175_100 : decode (xcode 175) 100 = .ok (.goto 7, 3) := by decide +kernel
theorem d175_103 : decode (xcode 175) 103 = .ok (.aload_n 0, 1) := by decide +kernel
theorem d175_104 : decode (xcode 175) 104 = .ok (.invokevirtual 257, 3) := by decide +kernel
theorem d175_107 : decode (xcode 175) 107 = .ok (.ireturn, 1) := by decide +kernel
noncomputable def f_M_clauseHere_b49 (v1 : Int32) (h : xH) : Option (Int32 × xH) :=
  (f_M_fails (0 : Int32) v1 h).bind fun q13 =>
  if q13.1 = 0 ∨ q13.1 = 1 then (
  some ((q13.1, q13.2))) else none
set_option maxHeartbeats 4000000 in
set_option maxRecDepth 100000 in
theorem f_M_clauseHere_b49_ok {g : xG} {l : Launch} {d : Nat} {v1 : Int32} {h : xH} {o : (Int32 × xH)} {R : Option xV} {H' : xH} (hD : 10 ≤ d) (hf : f_M_clauseHere_b49 v1 h = some o) (K0 : ∀ (a : Int32) (h1 : xH), o = (a, h1) → R = some (xi a) ∧ H' = h1) : xEv g l d 175 49 [(0, xr 12 (some 0)), (1, xi v1)] [] h R H' := by
  unfold f_M_clauseHere_b49 at hf
  refine xs_aload_n d175_49 rfl ?_
  refine xs_iconst (v := 0) d175_50 (by decide) ?_
  refine xs_iload_n d175_51 rfl ?_
  obtain ⟨q13, hc12, hf⟩ := lk_b hf
  refine xe_callv1 (as := [xi (0 : Int32), xi v1]) (st := []) (h2 := q13.2) (d2 := d - 1) d175_52 ky175 ml189 st145 (by decide) cn145 rfl na145 (Nat.le_of_ble_eq_true rfl) (by omega) (f_M_fails_ok (by omega) hc12) ?_
  obtain ⟨hz14, hf⟩ := lk_g hf
  obtain ⟨eR, eH⟩ := K0 _ _ (Option.some.inj hf).symm
  subst eR; subst eH
  exact xe_zret d175_55 hz14 rt175
noncomputable def f_M_clauseHere_b71 (v1 : Int32) (v2 : Int32) (t0 : Int32) (t1 : Int32) (h : xH) : Option (Int32 × xH) :=
  if t1 = t0 then (
  (f_M_fails (4 : Int32) v1 h).bind fun q19 =>
  if q19.1 = 0 ∨ q19.1 = 1 then (
  some ((q19.1, q19.2))) else none) else (
  xlet (xsI h 12 14 0 ((h.1 12 14 0) + (1 : Int32))) fun h21 =>
  if v2 = (0 : Int32) then (
  (f_M_isLiftHere h21).bind fun q25 =>
  if q25.1 = 0 ∨ q25.1 = 1 then (
  some ((q25.1, q25.2))) else none) else (
  (f_M_trugLineHere v1 h21).bind fun q29 =>
  if q29.1 = 0 ∨ q29.1 = 1 then (
  some ((q29.1, q29.2))) else none))
set_option maxHeartbeats 4000000 in
set_option maxRecDepth 100000 in
theorem f_M_clauseHere_b71_ok {g : xG} {l : Launch} {d : Nat} {v1 : Int32} {v2 : Int32} {t0 : Int32} {t1 : Int32} {h : xH} {o : (Int32 × xH)} {R : Option xV} {H' : xH} (hD : 10 ≤ d) (hf : f_M_clauseHere_b71 v1 v2 t0 t1 h = some o) (K0 : ∀ (a : Int32) (h1 : xH), o = (a, h1) → R = some (xi a) ∧ H' = h1) : xEv g l d 175 71 [(0, xr 12 (some 0)), (1, xi v1), (2, xi v2)] [xi t0, xi t1] h R H' := by
  unfold f_M_clauseHere_b71 at hf
  rcases lk_if hf with ⟨hc16, hf⟩ | ⟨hc16, hf⟩
  · refine xs_icmp_ne (tgt := 81) d175_71 (by decide) (fun _ => ?_) (fun hn => absurd hc16 hn)
    refine xs_aload_n d175_74 rfl ?_
    refine xs_iconst (v := 4) d175_75 (by decide) ?_
    refine xs_iload_n d175_76 rfl ?_
    obtain ⟨q19, hc18, hf⟩ := lk_b hf
    refine xe_callv1 (as := [xi (4 : Int32), xi v1]) (st := []) (h2 := q19.2) (d2 := d - 1) d175_77 ky175 ml189 st145 (by decide) cn145 rfl na145 (Nat.le_of_ble_eq_true rfl) (by omega) (f_M_fails_ok (by omega) hc18) ?_
    obtain ⟨hz20, hf⟩ := lk_g hf
    obtain ⟨eR, eH⟩ := K0 _ _ (Option.some.inj hf).symm
    subst eR; subst eH
    exact xe_zret d175_80 hz20 rt175
  · refine xs_icmp_ne (tgt := 81) d175_71 (by decide) (fun hp => absurd hp hc16) (fun _ => ?_)
    refine xs_aload_n d175_81 rfl ?_
    refine xs_dup d175_82 rfl ?_
    refine xe_geti d175_83 ky175 fl175 fk12_14 ?_
    refine xs_iconst (v := 1) d175_86 (by decide) ?_
    refine xs_iadd d175_87 ?_
    obtain ⟨h21, eh21, hf⟩ := lk_let hf
    refine xe_puti d175_88 ky175 fl175 fk12_14 ft12_14 eh21 ?_
    refine xs_iload_n d175_91 rfl ?_
    rcases lk_if hf with ⟨hc22, hf⟩ | ⟨hc22, hf⟩
    · refine xs_if_eq (tgt := 103) d175_92 (by decide) (fun _ => ?_) (fun hn => absurd hc22 hn)
      refine xs_aload_n d175_103 rfl ?_
      obtain ⟨q25, hc24, hf⟩ := lk_b hf
      refine xe_callv1 (as := []) (st := []) (h2 := q25.2) (d2 := d - 1) d175_104 ky175 ml200 st167 (by decide) cn167 rfl na167 (Nat.le_of_ble_eq_true rfl) (by omega) (f_M_isLiftHere_ok (by omega) hc24) ?_
      obtain ⟨hz26, hf⟩ := lk_g hf
      obtain ⟨eR, eH⟩ := K0 _ _ (Option.some.inj hf).symm
      subst eR; subst eH
      exact xe_zret d175_107 hz26 rt175
    · refine xs_if_eq (tgt := 103) d175_92 (by decide) (fun hp => absurd hp hc22) (fun _ => ?_)
      refine xs_aload_n d175_95 rfl ?_
      refine xs_iload_n d175_96 rfl ?_
      obtain ⟨q29, hc28, hf⟩ := lk_b hf
      refine xe_callv1 (as := [xi v1]) (st := []) (h2 := q29.2) (d2 := d - 1) d175_97 ky175 ml190 st173 (by decide) cn173 rfl na173 (Nat.le_of_ble_eq_true rfl) (by omega) (f_M_trugLineHere_ok (by omega) hc28) ?_
      refine xs_goto (tgt := 107) d175_100 (by decide) ?_
      obtain ⟨hz30, hf⟩ := lk_g hf
      obtain ⟨eR, eH⟩ := K0 _ _ (Option.some.inj hf).symm
      subst eR; subst eH
      exact xe_zret d175_107 hz30 rt175
noncomputable def f_M_clauseHere_b56 (v1 : Int32) (v2 : Int32) (h : xH) : Option (Int32 × xH) :=
  if v2 = (0 : Int32) then (
  f_M_clauseHere_b71 v1 v2 (12 : Int32) (h.1 12 14 0) h) else (
  f_M_clauseHere_b71 v1 v2 (40 : Int32) (h.1 12 14 0) h)
set_option maxHeartbeats 4000000 in
set_option maxRecDepth 100000 in
theorem f_M_clauseHere_b56_ok {g : xG} {l : Launch} {d : Nat} {v1 : Int32} {v2 : Int32} {h : xH} {o : (Int32 × xH)} {R : Option xV} {H' : xH} (hD : 10 ≤ d) (hf : f_M_clauseHere_b56 v1 v2 h = some o) (K0 : ∀ (a : Int32) (h1 : xH), o = (a, h1) → R = some (xi a) ∧ H' = h1) : xEv g l d 175 56 [(0, xr 12 (some 0)), (1, xi v1), (2, xi v2)] [] h R H' := by
  unfold f_M_clauseHere_b56 at hf
  refine xs_aload_n d175_56 rfl ?_
  refine xe_geti d175_57 ky175 fl175 fk12_14 ?_
  refine xs_iload_n d175_60 rfl ?_
  rcases lk_if hf with ⟨hc15, hf⟩ | ⟨hc15, hf⟩
  · refine xs_if_eq (tgt := 69) d175_61 (by decide) (fun _ => ?_) (fun hn => absurd hc15 hn)
    refine xs_bipush (v := 12) d175_69 (by decide) ?_
    exact f_M_clauseHere_b71_ok hD hf K0
  · refine xs_if_eq (tgt := 69) d175_61 (by decide) (fun hp => absurd hp hc15) (fun _ => ?_)
    refine xs_bipush (v := 40) d175_64 (by decide) ?_
    refine xs_goto (tgt := 71) d175_66 (by decide) ?_
    exact f_M_clauseHere_b71_ok hD hf K0
noncomputable def f_M_clauseHere_b24 (v1 : Int32) (t0 : Int32) (h : xH) : Option (Int32 × xH) :=
  if t0 = (0 : Int32) then (
  (f_M_isWord (1818846836 : Int64) h).bind fun q9 =>
  if q9.1 = (0 : Int32) then (
  f_M_clauseHere_b49 v1 q9.2) else (
  f_M_clauseHere_b56 v1 t0 q9.2)) else (
  (f_M_isTrugWord h).bind fun q33 =>
  if q33.1 = (0 : Int32) then (
  f_M_clauseHere_b49 v1 q33.2) else (
  f_M_clauseHere_b56 v1 t0 q33.2))
set_option maxHeartbeats 4000000 in
set_option maxRecDepth 100000 in
theorem f_M_clauseHere_b24_ok {g : xG} {l : Launch} {d : Nat} {v1 : Int32} {t0 : Int32} {h : xH} {o : (Int32 × xH)} {R : Option xV} {H' : xH} (hD : 10 ≤ d) (hf : f_M_clauseHere_b24 v1 t0 h = some o) (K0 : ∀ (a : Int32) (h1 : xH), o = (a, h1) → R = some (xi a) ∧ H' = h1) : xEv g l d 175 24 [(0, xr 12 (some 0)), (1, xi v1)] [xi t0] h R H' := by
  unfold f_M_clauseHere_b24 at hf
  refine xe_istore_n (v := t0) (ls2 := [(0, xr 12 (some 0)), (1, xi v1), (2, xi t0)]) d175_24 mx175 (by decide) rfl rfl ?_
  refine xs_iload_n d175_25 rfl ?_
  rcases lk_if hf with ⟨hc6, hf⟩ | ⟨hc6, hf⟩
  · refine xs_if_eq (tgt := 39) d175_26 (by decide) (fun _ => ?_) (fun hn => absurd hc6 hn)
    refine xs_aload_n d175_39 rfl ?_
    refine xs_ldc2 (v := 1818846836) d175_40 cl12_249 ?_
    obtain ⟨q9, hc8, hf⟩ := lk_b hf
    refine xe_callv1 (as := [xl (1818846836 : Int64)]) (st := []) (h2 := q9.2) (d2 := d - 1) d175_43 ky175 ml187 st149 (by decide) cn149 rfl na149 (Nat.le_of_ble_eq_true rfl) (by omega) (f_M_isWord_ok (by omega) hc8) ?_
    rcases lk_if hf with ⟨hc10, hf⟩ | ⟨hc10, hf⟩
    · refine xs_if_ne (tgt := 56) d175_46 (by decide) (fun _ => ?_) (fun hn => absurd hc10 hn)
      refine xs_pick [0, 1] rfl ?_
      exact f_M_clauseHere_b49_ok hD hf K0
    · refine xs_if_ne (tgt := 56) d175_46 (by decide) (fun hp => absurd hp hc10) (fun _ => ?_)
      exact f_M_clauseHere_b56_ok hD hf K0
  · refine xs_if_eq (tgt := 39) d175_26 (by decide) (fun hp => absurd hp hc6) (fun _ => ?_)
    refine xs_aload_n d175_29 rfl ?_
    obtain ⟨q33, hc32, hf⟩ := lk_b hf
    refine xe_callv1 (as := []) (st := []) (h2 := q33.2) (d2 := d - 1) d175_30 ky175 ml186 st174 (by decide) cn174 rfl na174 (Nat.le_of_ble_eq_true rfl) (by omega) (f_M_isTrugWord_ok (by omega) hc32) ?_
    rcases lk_if hf with ⟨hc34, hf⟩ | ⟨hc34, hf⟩
    · refine xs_if_ne (tgt := 56) d175_33 (by decide) (fun _ => ?_) (fun hn => absurd hc34 hn)
      refine xs_goto (tgt := 49) d175_36 (by decide) ?_
      refine xs_pick [0, 1] rfl ?_
      exact f_M_clauseHere_b49_ok hD hf K0
    · refine xs_if_ne (tgt := 56) d175_33 (by decide) (fun hp => absurd hp hc34) (fun _ => ?_)
      exact f_M_clauseHere_b56_ok hD hf K0
noncomputable def f_M_clauseHere_e (h : xH) : Option (Int32 × xH) :=
  (f_M_see h).bind fun q3 =>
  xlet (q3.2.1 12 8 0) fun v1_4 =>
  if (q3.2.1 12 11 0) = (6 : Int32) then (
  f_M_clauseHere_b24 v1_4 (1 : Int32) q3.2) else (
  f_M_clauseHere_b24 v1_4 (0 : Int32) q3.2)
set_option maxHeartbeats 4000000 in
set_option maxRecDepth 100000 in
theorem f_M_clauseHere_e_ok {g : xG} {l : Launch} {d : Nat} {h : xH} {o : (Int32 × xH)} {R : Option xV} {H' : xH} (hD : 10 ≤ d) (hf : f_M_clauseHere_e h = some o) (K0 : ∀ (a : Int32) (h1 : xH), o = (a, h1) → R = some (xi a) ∧ H' = h1) : xEv g l d 175 0 [(0, xr 12 (some 0))] [] h R H' := by
  unfold f_M_clauseHere_e at hf
  refine xs_aload_n d175_0 rfl ?_
  obtain ⟨q3, hc2, hf⟩ := lk_b hf
  refine xe_callv1 (as := []) (st := []) (h2 := q3.2) (d2 := d - 1) d175_1 ky175 ml185 st146 (by decide) cn146 rfl na146 (Nat.le_of_ble_eq_true rfl) (by omega) (f_M_see_ok (by omega) hc2) ?_
  refine xs_pop d175_4 rfl ?_
  refine xs_aload_n d175_5 rfl ?_
  refine xe_geti d175_6 ky175 fl169 fk12_8 ?_
  obtain ⟨v1_4, ev1_4, hf⟩ := lk_let hf
  refine xe_istore_n (v := v1_4) (ls2 := [(0, xr 12 (some 0)), (1, xi v1_4)]) d175_9 mx175 (by decide) ev1_4 rfl ?_
  refine xs_aload_n d175_10 rfl ?_
  refine xe_geti d175_11 ky175 fl172 fk12_11 ?_
  refine xs_bipush (v := 6) d175_14 (by decide) ?_
  rcases lk_if hf with ⟨hc5, hf⟩ | ⟨hc5, hf⟩
  · refine xs_icmp_ne (tgt := 23) d175_16 (by decide) (fun _ => ?_) (fun hn => absurd hc5 hn)
    refine xs_iconst (v := 1) d175_19 (by decide) ?_
    refine xs_goto (tgt := 24) d175_20 (by decide) ?_
    exact f_M_clauseHere_b24_ok hD hf K0
  · refine xs_icmp_ne (tgt := 23) d175_16 (by decide) (fun hp => absurd hp hc5) (fun _ => ?_)
    refine xs_iconst (v := 0) d175_23 (by decide) ?_
    exact f_M_clauseHere_b24_ok hD hf K0
noncomputable def f_M_clauseHere (h : xH) : Option (Int32 × xH) := f_M_clauseHere_e h
theorem f_M_clauseHere_ok {g : xG} {l : Launch} {d : Nat} {h : xH} {r : Int32} {h1 : xH} (hD : 10 ≤ d) (hf : f_M_clauseHere h = some (r, h1)) : xC g l d 175 [xr 12 (some 0)] h (some (xi r)) h1 :=
  xC_of2 (by decide) mx175 (Nat.le_of_ble_eq_true rfl) (f_M_clauseHere_e_ok hD hf (fun _ _ e => by cases e; exact ⟨rfl, rfl⟩))
theorem d176_0 : decode (xcode 176) 0 = .ok (.aload_n 0, 1) := by decide +kernel
theorem d176_1 : decode (xcode 176) 1 = .ok (.getfield 17, 3) := by decide +kernel
theorem d176_4 : decode (xcode 176) 4 = .ok (.aload_n 0, 1) := by decide +kernel
theorem d176_5 : decode (xcode 176) 5 = .ok (.getfield 152, 3) := by decide +kernel
theorem d176_8 : decode (xcode 176) 8 = .ok (.iconst 0, 1) := by decide +kernel
theorem d176_9 : decode (xcode 176) 9 = .ok (.iastore, 1) := by decide +kernel
theorem d176_10 : decode (xcode 176) 10 = .ok (.aload_n 0, 1) := by decide +kernel
theorem d176_11 : decode (xcode 176) 11 = .ok (.iconst 0, 1) := by decide +kernel
theorem d176_12 : decode (xcode 176) 12 = .ok (.putfield 251, 3) := by decide +kernel
theorem d176_15 : decode (xcode 176) 15 = .ok (.aload_n 0, 1) := by decide +kernel
theorem d176_16 : decode (xcode 176) 16 = .ok (.iconst 0, 1) := by decide +kernel
theorem d176_17 : decode (xcode 176) 17 = .ok (.putfield 96, 3) := by decide +kernel
theorem d176_20 : decode (xcode 176) 20 = .ok (.aload_n 0, 1) := by decide +kernel
theorem d176_21 : decode (xcode 176) 21 = .ok (.iconst 0, 1) := by decide +kernel
theorem d176_22 : decode (xcode 176) 22 = .ok (.putfield 93, 3) := by decide +kernel
theorem d176_25 : decode (xcode 176) 25 = .ok (.aload_n 0, 1) := by decide +kernel
theorem d176_26 : decode (xcode 176) 26 = .ok (.iconst 0, 1) := by decide +kernel
theorem d176_27 : decode (xcode 176) 27 = .ok (.putfield 155, 3) := by decide +kernel
theorem d176_30 : decode (xcode 176) 30 = .ok (.aload_n 0, 1) := by decide +kernel
theorem d176_31 : decode (xcode 176) 31 = .ok (.invokevirtual 260, 3) := by decide +kernel
theorem d176_34 : decode (xcode 176) 34 = .ok (.istore_n 1, 1) := by decide +kernel
theorem d176_35 : decode (xcode 176) 35 = .ok (.iload_n 1, 1) := by decide +kernel
theorem d176_36 : decode (xcode 176) 36 = .ok (.ifCond .eq 30, 3) := by decide +kernel
theorem d176_39 : decode (xcode 176) 39 = .ok (.aload_n 0, 1) := by decide +kernel
theorem d176_40 : decode (xcode 176) 40 = .ok (.invokevirtual 99, 3) := by decide +kernel
theorem d176_43 : decode (xcode 176) 43 = .ok (.bipush 59, 2) := by decide +kernel
theorem d176_45 : decode (xcode 176) 45 = .ok (.if_icmp .ne 21, 3) := by decide +kernel
theorem d176_48 : decode (xcode 176) 48 = .ok (.aload_n 0, 1) := by decide +kernel
theorem d176_49 : decode (xcode 176) 49 = .ok (.dup, 1) := by decide +kernel
theorem d176_50 : decode (xcode 176) 50 = .ok (.getfield 96, 3) := by decide +kernel
theorem d176_53 : decode (xcode 176) 53 = .ok (.iconst 1, 1) := by decide +kernel
theorem d176_54 : decode (xcode 176) 54 = .ok (.iadd, 1) := by decide +kernel
theorem d176_55 : decode (xcode 176) 55 = .ok (.putfield 96, 3) := by decide +kernel
theorem d176_58 : decode (xcode 176) 58 = .ok (.aload_n 0, 1) := by decide +kernel
theorem d176_59 : decode (xcode 176) 59 = .ok (.invokevirtual 260, 3) := by decide +kernel
theorem d176_62 : decode (xcode 176) 62 = .ok (.istore_n 1, 1) := by decide +kernel
theorem d176_63 : decode (xcode 176) 63 = .ok (.goto (-28), 3) := by decide +kernel
theorem d176_66 : decode (xcode 176) 66 = .ok (.iload_n 1, 1) := by decide +kernel
theorem d176_67 : decode (xcode 176) 67 = .ok (.ifCond .eq 21, 3) := by decide +kernel
theorem d176_70 : decode (xcode 176) 70 = .ok (.aload_n 0, 1) := by decide +kernel
theorem d176_71 : decode (xcode 176) 71 = .ok (.invokevirtual 99, 3) := by decide +kernel
theorem d176_74 : decode (xcode 176) 74 = .ok (.iconst (-1), 1) := by decide +kernel
theorem d176_75 : decode (xcode 176) 75 = .ok (.if_icmp .eq 13, 3) := by decide +kernel
theorem d176_78 : decode (xcode 176) 78 = .ok (.aload_n 0, 1) := by decide +kernel
theorem d176_79 : decode (xcode 176) 79 = .ok (.iconst 0, 1) := by decide +kernel
theorem d176_80 : decode (xcode 176) 80 = .ok (.aload_n 0, 1) := by decide +kernel
theorem d176_81 : decode (xcode 176) 81 = .ok (.getfield 96, 3) := by decide +kernel
theorem d176_84 : decode (xcode 176) 84 = .ok (.invokevirtual 117, 3) := by decide +kernel
theorem d176_87 : decode (xcode 176) 87 = .ok (.pop, 1) := by decide +kernel
theorem d176_88 : decode (xcode 176) 88 = .ok (.aload_n 0, 1) := by decide +kernel
theorem d176_89 : decode (xcode 176) 89 = .ok (.iconst 0, 1) := by decide +kernel
theorem d176_90 : decode (xcode 176) 90 = .ok (.putfield 86, 3) := by decide +kernel
theorem d176_93 : decode (xcode 176) 93 = .ok (.aload_n 0, 1) := by decide +kernel
theorem d176_94 : decode (xcode 176) 94 = .ok (.getfield 93, 3) := by decide +kernel
theorem d176_97 : decode (xcode 176) 97 = .ok (.ifCond .ne 7, 3) := by decide +kernel
theorem d176_100 : decode (xcode 176) 100 = .ok (.iconst 1, 1) := by decide +kernel
theorem d176_101 : decode (xcode 176) 101 = .ok (.goto 4, 3) := by decide +kernel
theorem d176_104 : decode (xcode 176) 104 = .ok (.iconst 0, 1) := by decide +kernel
theorem d176_105 : decode (xcode 176) 105 = .ok (.ireturn, 1) := by decide +kernel
noncomputable def f_M_readsAll_b88 (h : xH) : Option (Int32 × xH) :=
  xlet (xsI h 12 1 0 (0 : Int32)) fun h12 =>
  if (h12.1 12 9 0) = (0 : Int32) then (
  some (((1 : Int32), h12))) else (
  some (((0 : Int32), h12)))
set_option maxHeartbeats 4000000 in
set_option maxRecDepth 100000 in
theorem f_M_readsAll_b88_ok {g : xG} {l : Launch} {d : Nat} {h : xH} {o : (Int32 × xH)} {R : Option xV} {H' : xH} (hD : 11 ≤ d) (hf : f_M_readsAll_b88 h = some o) (K0 : ∀ (a : Int32) (h1 : xH), o = (a, h1) → R = some (xi a) ∧ H' = h1) : xEv g l d 176 88 [(0, xr 12 (some 0))] [] h R H' := by
  unfold f_M_readsAll_b88 at hf
  refine xs_aload_n d176_88 rfl ?_
  refine xs_iconst (v := 0) d176_89 (by decide) ?_
  obtain ⟨h12, eh12, hf⟩ := lk_let hf
  refine xe_puti d176_90 ky176 fl162 fk12_1 ft12_1 eh12 ?_
  refine xs_aload_n d176_93 rfl ?_
  refine xe_geti d176_94 ky176 fl170 fk12_9 ?_
  rcases lk_if hf with ⟨hc13, hf⟩ | ⟨hc13, hf⟩
  · refine xs_if_ne (tgt := 104) d176_97 (by decide) (fun _ => ?_) (fun hn => absurd hc13 hn)
    refine xs_iconst (v := 1) d176_100 (by decide) ?_
    refine xs_goto (tgt := 105) d176_101 (by decide) ?_
    obtain ⟨eR, eH⟩ := K0 _ _ (Option.some.inj hf).symm
    subst eR; subst eH
    exact xe_zret d176_105 (Or.inr rfl) rt176
  · refine xs_if_ne (tgt := 104) d176_97 (by decide) (fun hp => absurd hp hc13) (fun _ => ?_)
    refine xs_iconst (v := 0) d176_104 (by decide) ?_
    obtain ⟨eR, eH⟩ := K0 _ _ (Option.some.inj hf).symm
    subst eR; subst eH
    exact xe_zret d176_105 (Or.inl rfl) rt176
noncomputable def f_M_readsAll_b66 (v1 : Int32) (h : xH) : Option (Int32 × xH) :=
  if v1 = (0 : Int32) then (
  f_M_readsAll_b88 h) else (
  (f_M_see h).bind fun q16 =>
  if q16.1 = (-1 : Int32) then (
  f_M_readsAll_b88 q16.2) else (
  (f_M_fails (0 : Int32) (q16.2.1 12 8 0) q16.2).bind fun q20 =>
  f_M_readsAll_b88 q20.2))
set_option maxHeartbeats 4000000 in
set_option maxRecDepth 100000 in
theorem f_M_readsAll_b66_ok {g : xG} {l : Launch} {d : Nat} {v1 : Int32} {h : xH} {o : (Int32 × xH)} {R : Option xV} {H' : xH} (hD : 11 ≤ d) (hf : f_M_readsAll_b66 v1 h = some o) (K0 : ∀ (a : Int32) (h1 : xH), o = (a, h1) → R = some (xi a) ∧ H' = h1) : xEv g l d 176 66 [(0, xr 12 (some 0)), (1, xi v1)] [] h R H' := by
  unfold f_M_readsAll_b66 at hf
  refine xs_iload_n d176_66 rfl ?_
  rcases lk_if hf with ⟨hc11, hf⟩ | ⟨hc11, hf⟩
  · refine xs_if_eq (tgt := 88) d176_67 (by decide) (fun _ => ?_) (fun hn => absurd hc11 hn)
    refine xs_pick [0] rfl ?_
    exact f_M_readsAll_b88_ok hD hf K0
  · refine xs_if_eq (tgt := 88) d176_67 (by decide) (fun hp => absurd hp hc11) (fun _ => ?_)
    refine xs_aload_n d176_70 rfl ?_
    obtain ⟨q16, hc15, hf⟩ := lk_b hf
    refine xe_callv1 (as := []) (st := []) (h2 := q16.2) (d2 := d - 1) d176_71 ky176 ml185 st146 (by decide) cn146 rfl na146 (Nat.le_of_ble_eq_true rfl) (by omega) (f_M_see_ok (by omega) hc15) ?_
    refine xs_iconst (v := -1) d176_74 (by decide) ?_
    rcases lk_if hf with ⟨hc17, hf⟩ | ⟨hc17, hf⟩
    · refine xs_icmp_eq (tgt := 88) d176_75 (by decide) (fun _ => ?_) (fun hn => absurd hc17 hn)
      refine xs_pick [0] rfl ?_
      exact f_M_readsAll_b88_ok hD hf K0
    · refine xs_icmp_eq (tgt := 88) d176_75 (by decide) (fun hp => absurd hp hc17) (fun _ => ?_)
      refine xs_aload_n d176_78 rfl ?_
      refine xs_iconst (v := 0) d176_79 (by decide) ?_
      refine xs_aload_n d176_80 rfl ?_
      refine xe_geti d176_81 ky176 fl169 fk12_8 ?_
      obtain ⟨q20, hc19, hf⟩ := lk_b hf
      refine xe_callv1 (as := [xi (0 : Int32), xi (q16.2.1 12 8 0)]) (st := []) (h2 := q20.2) (d2 := d - 1) d176_84 ky176 ml189 st145 (by decide) cn145 rfl na145 (Nat.le_of_ble_eq_true rfl) (by omega) (f_M_fails_ok (by omega) hc19) ?_
      refine xs_pop d176_87 rfl ?_
      refine xs_pick [0] rfl ?_
      exact f_M_readsAll_b88_ok hD hf K0
noncomputable def f_M_readsAll_s35 (v1 : Int32) (h : xH) : Option ((Int32 × xH) ⊕ (Int32 × xH)) :=
  if v1 = (0 : Int32) then (
  xup (f_M_readsAll_b66 v1 h)) else (
  (f_M_see h).bind fun q23 =>
  if q23.1 = (59 : Int32) then (
  xlet (xsI q23.2 12 8 0 ((q23.2.1 12 8 0) + (1 : Int32))) fun h25 =>
  (f_M_clauseHere h25).bind fun q28 =>
  some (Sum.inl (q28.1, q28.2))) else (
  xup (f_M_readsAll_b66 v1 q23.2)))
set_option maxHeartbeats 4000000 in
set_option maxRecDepth 100000 in
theorem f_M_readsAll_s35_ok {g : xG} {l : Launch} {d : Nat} {v1 : Int32} {h : xH} {o : ((Int32 × xH) ⊕ (Int32 × xH))} {R : Option xV} {H' : xH} (hD : 11 ≤ d) (hf : f_M_readsAll_s35 v1 h = some o) (K1 : ∀ (w1 : Int32) (h1 : xH), o = Sum.inl (w1, h1) → xEv g l d 176 35 [(0, xr 12 (some 0)), (1, xi w1)] [] h1 R H') (K0 : ∀ (a : Int32) (h1 : xH), o = Sum.inr ((a, h1)) → R = some (xi a) ∧ H' = h1) : xEv g l d 176 35 [(0, xr 12 (some 0)), (1, xi v1)] [] h R H' := by
  unfold f_M_readsAll_s35 at hf
  refine xs_iload_n d176_35 rfl ?_
  rcases lk_if hf with ⟨hc10, hf⟩ | ⟨hc10, hf⟩
  · refine xs_if_eq (tgt := 66) d176_36 (by decide) (fun _ => ?_) (fun hn => absurd hc10 hn)
    obtain ⟨x0, hf, ex0⟩ := lk_up hf
    exact f_M_readsAll_b66_ok hD hf (fun u0 u1 e => K0 u0 u1 (ex0.trans (congrArg Sum.inr e)))
  · refine xs_if_eq (tgt := 66) d176_36 (by decide) (fun hp => absurd hp hc10) (fun _ => ?_)
    refine xs_aload_n d176_39 rfl ?_
    obtain ⟨q23, hc22, hf⟩ := lk_b hf
    refine xe_callv1 (as := []) (st := []) (h2 := q23.2) (d2 := d - 1) d176_40 ky176 ml185 st146 (by decide) cn146 rfl na146 (Nat.le_of_ble_eq_true rfl) (by omega) (f_M_see_ok (by omega) hc22) ?_
    refine xs_bipush (v := 59) d176_43 (by decide) ?_
    rcases lk_if hf with ⟨hc24, hf⟩ | ⟨hc24, hf⟩
    · refine xs_icmp_ne (tgt := 66) d176_45 (by decide) (fun _ => ?_) (fun hn => absurd hc24 hn)
      refine xs_aload_n d176_48 rfl ?_
      refine xs_dup d176_49 rfl ?_
      refine xe_geti d176_50 ky176 fl169 fk12_8 ?_
      refine xs_iconst (v := 1) d176_53 (by decide) ?_
      refine xs_iadd d176_54 ?_
      obtain ⟨h25, eh25, hf⟩ := lk_let hf
      refine xe_puti d176_55 ky176 fl169 fk12_8 ft12_8 eh25 ?_
      refine xs_aload_n d176_58 rfl ?_
      obtain ⟨q28, hc27, hf⟩ := lk_b hf
      refine xe_callv1 (as := []) (st := []) (h2 := q28.2) (d2 := d - 1) d176_59 ky176 ml184 st175 (by decide) cn175 rfl na175 (Nat.le_of_ble_eq_true rfl) (by omega) (f_M_clauseHere_ok (by omega) hc27) ?_
      refine xe_istore_n (v := q28.1) (ls2 := [(0, xr 12 (some 0)), (1, xi q28.1)]) d176_62 mx176 (by decide) rfl rfl ?_
      refine xs_goto (tgt := 35) d176_63 (by decide) ?_
      exact K1 _ _ (Option.some.inj hf).symm
    · refine xs_icmp_ne (tgt := 66) d176_45 (by decide) (fun hp => absurd hp hc24) (fun _ => ?_)
      obtain ⟨x0, hf, ex0⟩ := lk_up hf
      exact f_M_readsAll_b66_ok hD hf (fun u0 u1 e => K0 u0 u1 (ex0.trans (congrArg Sum.inr e)))
noncomputable def f_M_readsAll_l35 (v1 : Int32) (h : xH) : Option (Int32 × xH) :=
  whl (fun s => f_M_readsAll_s35 s.1 s.2) (v1, h)
theorem f_M_readsAll_l35_ok {g : xG} {l : Launch} {d : Nat} {v1 : Int32} {h : xH} {o : (Int32 × xH)} {R : Option xV} {H' : xH} (hD : 11 ≤ d) (hf : f_M_readsAll_l35 v1 h = some o) (K0 : ∀ (a : Int32) (h1 : xH), o = (a, h1) → R = some (xi a) ∧ H' = h1) : xEv g l d 176 35 [(0, xr 12 (some 0)), (1, xi v1)] [] h R H' := by
  obtain ⟨n, hn⟩ := whl_iff.mp hf
  clear hf
  induction n generalizing v1 h with
  | zero => cases hn
  | succ n ih =>
    obtain ⟨o2, hs, hn⟩ := lk_b (show (f_M_readsAll_s35 v1 h).bind (fun o => Sum.elim (itn _ n) some o) = some o from hn)
    exact f_M_readsAll_s35_ok hD hs (fun u0 u1 e => ih (by rw [e] at hn; exact hn)) (fun u0 u1 e => K0 u0 u1 (by rw [e] at hn; exact (Option.some.inj hn).symm))
noncomputable def f_M_readsAll_e (h : xH) : Option (Int32 × xH) :=
  if xib (h.1 12 11 0) 7 then (
  xlet (xsA h 49 0 (upd (h.2.2.2.1 49 0) (h.1 12 11 0).toNatClampNeg (0 : Int32))) fun h2 =>
  xlet (xsI h2 12 14 0 (0 : Int32)) fun h3 =>
  xlet (xsI h3 12 8 0 (0 : Int32)) fun h4 =>
  xlet (xsI h4 12 9 0 (0 : Int32)) fun h5 =>
  xlet (xsI h5 12 12 0 (0 : Int32)) fun h6 =>
  (f_M_clauseHere h6).bind fun q9 =>
  f_M_readsAll_l35 q9.1 q9.2) else none
set_option maxHeartbeats 4000000 in
set_option maxRecDepth 100000 in
theorem f_M_readsAll_e_ok {g : xG} {l : Launch} {d : Nat} {h : xH} {o : (Int32 × xH)} {R : Option xV} {H' : xH} (hD : 11 ≤ d) (hf : f_M_readsAll_e h = some o) (K0 : ∀ (a : Int32) (h1 : xH), o = (a, h1) → R = some (xi a) ∧ H' = h1) : xEv g l d 176 0 [(0, xr 12 (some 0))] [] h R H' := by
  unfold f_M_readsAll_e at hf
  refine xs_aload_n d176_0 rfl ?_
  refine xe_getc (j := 0) d176_1 ky176 fl165 fk12_4 rfl ?_
  refine xs_aload_n d176_4 rfl ?_
  refine xe_geti d176_5 ky176 fl172 fk12_11 ?_
  refine xs_iconst (v := 0) d176_8 (by decide) ?_
  obtain ⟨hin1, hf⟩ := lk_g hf
  obtain ⟨h2, eh2, hf⟩ := lk_let hf
  refine xe_iast d176_9 (by decide) ak49 hin1  eh2 ?_
  refine xs_aload_n d176_10 rfl ?_
  refine xs_iconst (v := 0) d176_11 (by decide) ?_
  obtain ⟨h3, eh3, hf⟩ := lk_let hf
  refine xe_puti d176_12 ky176 fl175 fk12_14 ft12_14 eh3 ?_
  refine xs_aload_n d176_15 rfl ?_
  refine xs_iconst (v := 0) d176_16 (by decide) ?_
  obtain ⟨h4, eh4, hf⟩ := lk_let hf
  refine xe_puti d176_17 ky176 fl169 fk12_8 ft12_8 eh4 ?_
  refine xs_aload_n d176_20 rfl ?_
  refine xs_iconst (v := 0) d176_21 (by decide) ?_
  obtain ⟨h5, eh5, hf⟩ := lk_let hf
  refine xe_puti d176_22 ky176 fl170 fk12_9 ft12_9 eh5 ?_
  refine xs_aload_n d176_25 rfl ?_
  refine xs_iconst (v := 0) d176_26 (by decide) ?_
  obtain ⟨h6, eh6, hf⟩ := lk_let hf
  refine xe_puti d176_27 ky176 fl173 fk12_12 ft12_12 eh6 ?_
  refine xs_aload_n d176_30 rfl ?_
  obtain ⟨q9, hc8, hf⟩ := lk_b hf
  refine xe_callv1 (as := []) (st := []) (h2 := q9.2) (d2 := d - 1) d176_31 ky176 ml184 st175 (by decide) cn175 rfl na175 (Nat.le_of_ble_eq_true rfl) (by omega) (f_M_clauseHere_ok (by omega) hc8) ?_
  refine xe_istore_n (v := q9.1) (ls2 := [(0, xr 12 (some 0)), (1, xi q9.1)]) d176_34 mx176 (by decide) rfl rfl ?_
  exact f_M_readsAll_l35_ok hD hf K0
noncomputable def f_M_readsAll (h : xH) : Option (Int32 × xH) := f_M_readsAll_e h
theorem f_M_readsAll_ok {g : xG} {l : Launch} {d : Nat} {h : xH} {r : Int32} {h1 : xH} (hD : 11 ≤ d) (hf : f_M_readsAll h = some (r, h1)) : xC g l d 176 [xr 12 (some 0)] h (some (xi r)) h1 :=
  xC_of2 (by decide) mx176 (Nat.le_of_ble_eq_true rfl) (f_M_readsAll_e_ok hD hf (fun _ _ e => by cases e; exact ⟨rfl, rfl⟩))
theorem d177_0 : decode (xcode 177) 0 = .ok (.aload_n 0, 1) := by decide +kernel
theorem d177_1 : decode (xcode 177) 1 = .ok (.getfield 263, 3) := by decide +kernel
theorem d177_4 : decode (xcode 177) 4 = .ok (.bipush 6, 2) := by decide +kernel
theorem d177_6 : decode (xcode 177) 6 = .ok (.if_icmp .ne 5, 3) := by decide +kernel
theorem d177_9 : decode (xcode 177) 9 = .ok (.iconst (-1), 1) := by decide +kernel
theorem d177_10 : decode (xcode 177) 10 = .ok (.ireturn, 1) := by decide +kernel
theorem d177_11 : decode (xcode 177) 11 = .ok (.aload_n 0, 1) := by decide +kernel
theorem d177_12 : decode (xcode 177) 12 = .ok (.aload_n 0, 1) := by decide +kernel
theorem d177_13 : decode (xcode 177) 13 = .ok (.getfield 263, 3) := by decide +kernel
theorem d177_16 : decode (xcode 177) 16 = .ok (.putfield 152, 3) := by decide +kernel
theorem d177_19 : decode (xcode 177) 19 = .ok (.aload_n 0, 1) := by decide +kernel
theorem d177_20 : decode (xcode 177) 20 = .ok (.getfield 23, 3) := by decide +kernel
theorem d177_23 : decode (xcode 177) 23 = .ok (.aload_n 0, 1) := by decide +kernel
theorem d177_24 : decode (xcode 177) 24 = .ok (.getfield 152, 3) := by decide +kernel
theorem d177_27 : decode (xcode 177) 27 = .ok (.iconst 0, 1) := by decide +kernel
theorem d177_28 : decode (xcode 177) 28 = .ok (.iastore, 1) := by decide +kernel
theorem d177_29 : decode (xcode 177) 29 = .ok (.aload_n 0, 1) := by decide +kernel
theorem d177_30 : decode (xcode 177) 30 = .ok (.invokevirtual 266, 3) := by decide +kernel
theorem d177_33 : decode (xcode 177) 33 = .ok (.ifCond .ne 11, 3) := by decide +kernel
theorem d177_36 : decode (xcode 177) 36 = .ok (.bipush (-2), 2) := by decide +kernel
theorem d177_38 : decode (xcode 177) 38 = .ok (.aload_n 0, 1) := by decide +kernel
theorem d177_39 : decode (xcode 177) 39 = .ok (.getfield 93, 3) := by decide +kernel
theorem d177_42 : decode (xcode 177) 42 = .ok (.isub, 1) := by decide +kernel
theorem d177_43 : decode (xcode 177) 43 = .ok (.ireturn, 1) := by decide +kernel
theorem d177_44 : decode (xcode 177) 44 = .ok (.aload_n 0, 1) := by decide +kernel
theorem d177_45 : decode (xcode 177) 45 = .ok (.dup, 1) := by decide +kernel
theorem d177_46 : decode (xcode 177) 46 = .ok (.getfield 263, 3) := by decide +kernel
theorem d177_49 : decode (xcode 177) 49 = .ok (.iconst 1, 1) := by decide +kernel
theorem d177_50 : decode (xcode 177) 50 = .ok (.iadd, 1) := by decide +kernel
theorem d177_51 : decode (xcode 177) 51 = .ok (.putfield 263, 3) := by decide +kernel
theorem d177_54 : decode (xcode 177) 54 = .ok (.aload_n 0, 1) := by decide +kernel
theorem d177_55 : decode (xcode 177) 55 = .ok (.getfield 263, 3) := by decide +kernel
theorem d177_58 : decode (xcode 177) 58 = .ok (.iconst 1, 1) := by decide +kernel
theorem d177_59 : decode (xcode 177) 59 = .ok (.isub, 1) := by decide +kernel
theorem d177_60 : decode (xcode 177) 60 = .ok (.ireturn, 1) := by decide +kernel
noncomputable def f_M_rule_e (h : xH) : Option (Int32 × xH) :=
  if (h.1 12 2 0) = (6 : Int32) then (
  some (((-1 : Int32), h))) else (
  xlet (xsI h 12 11 0 (h.1 12 2 0)) fun h2 =>
  if xib (h2.1 12 11 0) 6 then (
  xlet (xsA h2 51 0 (upd (h2.2.2.2.1 51 0) (h2.1 12 11 0).toNatClampNeg (0 : Int32))) fun h4 =>
  (f_M_readsAll h4).bind fun q7 =>
  if q7.1 = (0 : Int32) then (
  some (((-2 : Int32) - (q7.2.1 12 9 0), q7.2))) else (
  xlet (xsI q7.2 12 2 0 ((q7.2.1 12 2 0) + (1 : Int32))) fun h9 =>
  some (((h9.1 12 2 0) - (1 : Int32), h9)))) else none)
set_option maxHeartbeats 4000000 in
set_option maxRecDepth 100000 in
theorem f_M_rule_e_ok {g : xG} {l : Launch} {d : Nat} {h : xH} {o : (Int32 × xH)} {R : Option xV} {H' : xH} (hD : 12 ≤ d) (hf : f_M_rule_e h = some o) (K0 : ∀ (a : Int32) (h1 : xH), o = (a, h1) → R = some (xi a) ∧ H' = h1) : xEv g l d 177 0 [(0, xr 12 (some 0))] [] h R H' := by
  unfold f_M_rule_e at hf
  refine xs_aload_n d177_0 rfl ?_
  refine xe_geti d177_1 ky177 fl163 fk12_2 ?_
  refine xs_bipush (v := 6) d177_4 (by decide) ?_
  rcases lk_if hf with ⟨hc1, hf⟩ | ⟨hc1, hf⟩
  · refine xs_icmp_ne (tgt := 11) d177_6 (by decide) (fun _ => ?_) (fun hn => absurd hc1 hn)
    refine xs_iconst (v := -1) d177_9 (by decide) ?_
    obtain ⟨eR, eH⟩ := K0 _ _ (Option.some.inj hf).symm
    subst eR; subst eH
    exact xs_iret d177_10 rt177
  · refine xs_icmp_ne (tgt := 11) d177_6 (by decide) (fun hp => absurd hp hc1) (fun _ => ?_)
    refine xs_aload_n d177_11 rfl ?_
    refine xs_aload_n d177_12 rfl ?_
    refine xe_geti d177_13 ky177 fl163 fk12_2 ?_
    obtain ⟨h2, eh2, hf⟩ := lk_let hf
    refine xe_puti d177_16 ky177 fl172 fk12_11 ft12_11 eh2 ?_
    refine xs_aload_n d177_19 rfl ?_
    refine xe_getc (j := 0) d177_20 ky177 fl167 fk12_6 rfl ?_
    refine xs_aload_n d177_23 rfl ?_
    refine xe_geti d177_24 ky177 fl172 fk12_11 ?_
    refine xs_iconst (v := 0) d177_27 (by decide) ?_
    obtain ⟨hin3, hf⟩ := lk_g hf
    obtain ⟨h4, eh4, hf⟩ := lk_let hf
    refine xe_iast d177_28 (by decide) ak51 hin3  eh4 ?_
    refine xs_aload_n d177_29 rfl ?_
    obtain ⟨q7, hc6, hf⟩ := lk_b hf
    refine xe_callv1 (as := []) (st := []) (h2 := q7.2) (d2 := d - 1) d177_30 ky177 ml183 st176 (by decide) cn176 rfl na176 (Nat.le_of_ble_eq_true rfl) (by omega) (f_M_readsAll_ok (by omega) hc6) ?_
    rcases lk_if hf with ⟨hc8, hf⟩ | ⟨hc8, hf⟩
    · refine xs_if_ne (tgt := 44) d177_33 (by decide) (fun _ => ?_) (fun hn => absurd hc8 hn)
      refine xs_bipush (v := -2) d177_36 (by decide) ?_
      refine xs_aload_n d177_38 rfl ?_
      refine xe_geti d177_39 ky177 fl170 fk12_9 ?_
      refine xs_isub d177_42 ?_
      obtain ⟨eR, eH⟩ := K0 _ _ (Option.some.inj hf).symm
      subst eR; subst eH
      exact xs_iret d177_43 rt177
    · refine xs_if_ne (tgt := 44) d177_33 (by decide) (fun hp => absurd hp hc8) (fun _ => ?_)
      refine xs_aload_n d177_44 rfl ?_
      refine xs_dup d177_45 rfl ?_
      refine xe_geti d177_46 ky177 fl163 fk12_2 ?_
      refine xs_iconst (v := 1) d177_49 (by decide) ?_
      refine xs_iadd d177_50 ?_
      obtain ⟨h9, eh9, hf⟩ := lk_let hf
      refine xe_puti d177_51 ky177 fl163 fk12_2 ft12_2 eh9 ?_
      refine xs_aload_n d177_54 rfl ?_
      refine xe_geti d177_55 ky177 fl163 fk12_2 ?_
      refine xs_iconst (v := 1) d177_58 (by decide) ?_
      refine xs_isub d177_59 ?_
      obtain ⟨eR, eH⟩ := K0 _ _ (Option.some.inj hf).symm
      subst eR; subst eH
      exact xs_iret d177_60 rt177
noncomputable def f_M_rule (h : xH) : Option (Int32 × xH) := f_M_rule_e h
theorem f_M_rule_ok {g : xG} {l : Launch} {d : Nat} {h : xH} {r : Int32} {h1 : xH} (hD : 12 ≤ d) (hf : f_M_rule h = some (r, h1)) : xC g l d 177 [xr 12 (some 0)] h (some (xi r)) h1 :=
  xC_of2 (by decide) mx177 (Nat.le_of_ble_eq_true rfl) (f_M_rule_e_ok hD hf (fun _ _ e => by cases e; exact ⟨rfl, rfl⟩))
theorem d194_0 : decode (xcode 194) 0 = .ok (.aload_n 0, 1) := by decide +kernel
theorem d194_1 : decode (xcode 194) 1 = .ok (.getfield 39, 3) := by decide +kernel
theorem d194_4 : decode (xcode 194) 4 = .ok (.bipush 10, 2) := by decide +kernel
theorem d194_6 : decode (xcode 194) 6 = .ok (.iconst 0, 1) := by decide +kernel
theorem d194_7 : decode (xcode 194) 7 = .ok (.iastore, 1) := by decide +kernel
theorem d194_8 : decode (xcode 194) 8 = .ok (.aload_n 0, 1) := by decide +kernel
theorem d194_9 : decode (xcode 194) 9 = .ok (.getfield 39, 3) := by decide +kernel
theorem d194_12 : decode (xcode 194) 12 = .ok (.bipush 11, 2) := by decide +kernel
theorem d194_14 : decode (xcode 194) 14 = .ok (.iconst 0, 1) := by decide +kernel
theorem d194_15 : decode (xcode 194) 15 = .ok (.iastore, 1) := by decide +kernel
theorem d194_16 : decode (xcode 194) 16 = .ok (.iconst 0, 1) := by decide +kernel
theorem d194_17 : decode (xcode 194) 17 = .ok (.istore_n 1, 1) := by decide +kernel
theorem d194_18 : decode (xcode 194) 18 = .ok (.iload_n 1, 1) := by decide +kernel
theorem d194_19 : decode (xcode 194) 19 = .ok (.bipush 8, 2) := by decide +kernel
theorem d194_21 : decode (xcode 194) 21 = .ok (.if_icmp .ge 65, 3) := by decide +kernel
theorem d194_24 : decode (xcode 194) 24 = .ok (.aload_n 0, 1) := by decide +kernel
theorem d194_25 : decode (xcode 194) 25 = .ok (.getfield 39, 3) := by decide +kernel
theorem d194_28 : decode (xcode 194) 28 = .ok (.bipush 12, 2) := by decide +kernel
theorem d194_30 : decode (xcode 194) 30 = .ok (.iload_n 1, 1) := by decide +kernel
theorem d194_31 : decode (xcode 194) 31 = .ok (.iadd, 1) := by decide +kernel
theorem d194_32 : decode (xcode 194) 32 = .ok (.iconst 0, 1) := by decide +kernel
theorem d194_33 : decode (xcode 194) 33 = .ok (.iastore, 1) := by decide +kernel
theorem d194_34 : decode (xcode 194) 34 = .ok (.aload_n 0, 1) := by decide +kernel
theorem d194_35 : decode (xcode 194) 35 = .ok (.getfield 39, 3) := by decide +kernel
theorem d194_38 : decode (xcode 194) 38 = .ok (.bipush 20, 2) := by decide +kernel
theorem d194_40 : decode (xcode 194) 40 = .ok (.iload_n 1, 1) := by decide +kernel
theorem d194_41 : decode (xcode 194) 41 = .ok (.iadd, 1) := by decide +kernel
theorem d194_42 : decode (xcode 194) 42 = .ok (.iconst (-1), 1) := by decide +kernel
theorem d194_43 : decode (xcode 194) 43 = .ok (.iastore, 1) := by decide +kernel
theorem d194_44 : decode (xcode 194) 44 = .ok (.aload_n 0, 1) := by decide +kernel
theorem d194_45 : decode (xcode 194) 45 = .ok (.getfield 39, 3) := by decide +kernel
theorem d194_48 : decode (xcode 194) 48 = .ok (.bipush 28, 2) := by decide +kernel
theorem d194_50 : decode (xcode 194) 50 = .ok (.iload_n 1, 1) := by decide +kernel
theorem d194_51 : decode (xcode 194) 51 = .ok (.iadd, 1) := by decide +kernel
theorem d194_52 : decode (xcode 194) 52 = .ok (.aload_n 0, 1) := by decide +kernel
theorem d194_53 : decode (xcode 194) 53 = .ok (.getfield 39, 3) := by decide +kernel
theorem d194_56 : decode (xcode 194) 56 = .ok (.bipush 64, 2) := by decide +kernel
theorem d194_58 : decode (xcode 194) 58 = .ok (.iload_n 1, 1) := by decide +kernel
theorem d194_59 : decode (xcode 194) 59 = .ok (.iadd, 1) := by decide +kernel
theorem d194_60 : decode (xcode 194) 60 = .ok (.iaload, 1) := by decide +kernel
theorem d194_61 : decode (xcode 194) 61 = .ok (.iastore, 1) := by decide +kernel
theorem d194_62 : decode (xcode 194) 62 = .ok (.aload_n 0, 1) := by decide +kernel
theorem d194_63 : decode (xcode 194) 63 = .ok (.getfield 39, 3) := by decide +kernel
theorem d194_66 : decode (xcode 194) 66 = .ok (.bipush 36, 2) := by decide +kernel
theorem d194_68 : decode (xcode 194) 68 = .ok (.iload_n 1, 1) := by decide +kernel
theorem d194_69 : decode (xcode 194) 69 = .ok (.iadd, 1) := by decide +kernel
theorem d194_70 : decode (xcode 194) 70 = .ok (.aload_n 0, 1) := by decide +kernel
theorem d194_71 : decode (xcode 194) 71 = .ok (.getfield 39, 3) := by decide +kernel
theorem d194_74 : decode (xcode 194) 74 = .ok (.bipush 72, 2) := by decide +kernel
theorem d194_76 : decode (xcode 194) 76 = .ok (.iload_n 1, 1) := by decide +kernel
theorem d194_77 : decode (xcode 194) 77 = .ok (.iadd, 1) := by decide +kernel
theorem d194_78 : decode (xcode 194) 78 = .ok (.iaload, 1) := by decide +kernel
theorem d194_79 : decode (xcode 194) 79 = .ok (.iastore, 1) := by decide +kernel
theorem d194_80 : decode (xcode 194) 80 = .ok (.iinc 1 1, 3) := by decide +kernel
theorem d194_83 : decode (xcode 194) 83 = .ok (.goto (-65), 3) := by decide +kernel
theorem d194_86 : decode (xcode 194) 86 = .ok (.return_, 1) := by decide +kernel
noncomputable def f_M_begins_s18 (v1 : Int32) (h : xH) : Option ((Int32 × xH) ⊕ xH) :=
  if (8 : Int32) ≤ v1 then (
  some (Sum.inr (h))) else (
  if xib ((12 : Int32) + v1) 101 then (
  xlet (xsA h 56 0 (upd (h.2.2.2.1 56 0) ((12 : Int32) + v1).toNatClampNeg (0 : Int32))) fun h5 =>
  if xib ((20 : Int32) + v1) 101 then (
  xlet (xsA h5 56 0 (upd (h5.2.2.2.1 56 0) ((20 : Int32) + v1).toNatClampNeg (-1 : Int32))) fun h7 =>
  if xib ((64 : Int32) + v1) 101 then (
  if xib ((28 : Int32) + v1) 101 then (
  xlet (xsA h7 56 0 (upd (h7.2.2.2.1 56 0) ((28 : Int32) + v1).toNatClampNeg (h7.2.2.2.1 56 0 ((64 : Int32) + v1).toNatClampNeg))) fun h10 =>
  if xib ((72 : Int32) + v1) 101 then (
  if xib ((36 : Int32) + v1) 101 then (
  xlet (xsA h10 56 0 (upd (h10.2.2.2.1 56 0) ((36 : Int32) + v1).toNatClampNeg (h10.2.2.2.1 56 0 ((72 : Int32) + v1).toNatClampNeg))) fun h13 =>
  xlet (v1 + (1 : Int32)) fun v1_14 =>
  some (Sum.inl (v1_14, h13))) else none) else none) else none) else none) else none) else none)
set_option maxHeartbeats 4000000 in
set_option maxRecDepth 100000 in
theorem f_M_begins_s18_ok {g : xG} {l : Launch} {d : Nat} {v1 : Int32} {h : xH} {o : ((Int32 × xH) ⊕ xH)} {R : Option xV} {H' : xH} (hD : 0 ≤ d) (hf : f_M_begins_s18 v1 h = some o) (K1 : ∀ (w1 : Int32) (h1 : xH), o = Sum.inl (w1, h1) → xEv g l d 194 18 [(0, xr 12 (some 0)), (1, xi w1)] [] h1 R H') (K0 : ∀ (h1 : xH), o = Sum.inr (h1) → R = none ∧ H' = h1) : xEv g l d 194 18 [(0, xr 12 (some 0)), (1, xi v1)] [] h R H' := by
  unfold f_M_begins_s18 at hf
  refine xs_iload_n d194_18 rfl ?_
  refine xs_bipush (v := 8) d194_19 (by decide) ?_
  rcases lk_if hf with ⟨hc3, hf⟩ | ⟨hc3, hf⟩
  · refine xs_icmp_ge (tgt := 86) d194_21 (by decide) (fun _ => ?_) (fun hn => absurd hc3 hn)
    obtain ⟨eR, eH⟩ := K0 _ (Option.some.inj hf).symm
    subst eR; subst eH
    exact xs_vret d194_86 rt194
  · refine xs_icmp_ge (tgt := 86) d194_21 (by decide) (fun hp => absurd hp hc3) (fun _ => ?_)
    refine xs_aload_n d194_24 rfl ?_
    refine xe_getc (j := 0) d194_25 ky194 fl181 fk12_20 rfl ?_
    refine xs_bipush (v := 12) d194_28 (by decide) ?_
    refine xs_iload_n d194_30 rfl ?_
    refine xs_iadd d194_31 ?_
    refine xs_iconst (v := 0) d194_32 (by decide) ?_
    obtain ⟨hin4, hf⟩ := lk_g hf
    obtain ⟨h5, eh5, hf⟩ := lk_let hf
    refine xe_iast d194_33 (by decide) ak56 hin4  eh5 ?_
    refine xs_aload_n d194_34 rfl ?_
    refine xe_getc (j := 0) d194_35 ky194 fl181 fk12_20 rfl ?_
    refine xs_bipush (v := 20) d194_38 (by decide) ?_
    refine xs_iload_n d194_40 rfl ?_
    refine xs_iadd d194_41 ?_
    refine xs_iconst (v := -1) d194_42 (by decide) ?_
    obtain ⟨hin6, hf⟩ := lk_g hf
    obtain ⟨h7, eh7, hf⟩ := lk_let hf
    refine xe_iast d194_43 (by decide) ak56 hin6  eh7 ?_
    refine xs_aload_n d194_44 rfl ?_
    refine xe_getc (j := 0) d194_45 ky194 fl181 fk12_20 rfl ?_
    refine xs_bipush (v := 28) d194_48 (by decide) ?_
    refine xs_iload_n d194_50 rfl ?_
    refine xs_iadd d194_51 ?_
    refine xs_aload_n d194_52 rfl ?_
    refine xe_getc (j := 0) d194_53 ky194 fl181 fk12_20 rfl ?_
    refine xs_bipush (v := 64) d194_56 (by decide) ?_
    refine xs_iload_n d194_58 rfl ?_
    refine xs_iadd d194_59 ?_
    obtain ⟨hin8, hf⟩ := lk_g hf
    refine xe_iald d194_60 (by decide) ak56 hin8 ?_
    obtain ⟨hin9, hf⟩ := lk_g hf
    obtain ⟨h10, eh10, hf⟩ := lk_let hf
    refine xe_iast d194_61 (by decide) ak56 hin9  eh10 ?_
    refine xs_aload_n d194_62 rfl ?_
    refine xe_getc (j := 0) d194_63 ky194 fl181 fk12_20 rfl ?_
    refine xs_bipush (v := 36) d194_66 (by decide) ?_
    refine xs_iload_n d194_68 rfl ?_
    refine xs_iadd d194_69 ?_
    refine xs_aload_n d194_70 rfl ?_
    refine xe_getc (j := 0) d194_71 ky194 fl181 fk12_20 rfl ?_
    refine xs_bipush (v := 72) d194_74 (by decide) ?_
    refine xs_iload_n d194_76 rfl ?_
    refine xs_iadd d194_77 ?_
    obtain ⟨hin11, hf⟩ := lk_g hf
    refine xe_iald d194_78 (by decide) ak56 hin11 ?_
    obtain ⟨hin12, hf⟩ := lk_g hf
    obtain ⟨h13, eh13, hf⟩ := lk_let hf
    refine xe_iast d194_79 (by decide) ak56 hin12  eh13 ?_
    obtain ⟨v1_14, ev1_14, hf⟩ := lk_let hf
    refine xe_iinc (v := v1_14) (b := 1) (ls2 := [(0, xr 12 (some 0)), (1, xi v1_14)]) d194_80 mx194 (by decide) rfl (by decide) ev1_14 rfl ?_
    refine xs_goto (tgt := 18) d194_83 (by decide) ?_
    exact K1 _ _ (Option.some.inj hf).symm
noncomputable def f_M_begins_l18 (v1 : Int32) (h : xH) : Option xH :=
  whl (fun s => f_M_begins_s18 s.1 s.2) (v1, h)
theorem f_M_begins_l18_ok {g : xG} {l : Launch} {d : Nat} {v1 : Int32} {h : xH} {o : xH} {R : Option xV} {H' : xH} (hD : 0 ≤ d) (hf : f_M_begins_l18 v1 h = some o) (K0 : ∀ (h1 : xH), o = h1 → R = none ∧ H' = h1) : xEv g l d 194 18 [(0, xr 12 (some 0)), (1, xi v1)] [] h R H' := by
  obtain ⟨n, hn⟩ := whl_iff.mp hf
  clear hf
  induction n generalizing v1 h with
  | zero => cases hn
  | succ n ih =>
    obtain ⟨o2, hs, hn⟩ := lk_b (show (f_M_begins_s18 v1 h).bind (fun o => Sum.elim (itn _ n) some o) = some o from hn)
    exact f_M_begins_s18_ok hD hs (fun u0 u1 e => ih (by rw [e] at hn; exact hn)) (fun u0 e => K0 u0 (by rw [e] at hn; exact (Option.some.inj hn).symm))
noncomputable def f_M_begins_e (h : xH) : Option xH :=
  xlet (xsA h 56 0 (upd (h.2.2.2.1 56 0) ((10 : Int32)).toNatClampNeg (0 : Int32))) fun h1 =>
  xlet (xsA h1 56 0 (upd (h1.2.2.2.1 56 0) ((11 : Int32)).toNatClampNeg (0 : Int32))) fun h2 =>
  f_M_begins_l18 (0 : Int32) h2
set_option maxHeartbeats 4000000 in
set_option maxRecDepth 100000 in
theorem f_M_begins_e_ok {g : xG} {l : Launch} {d : Nat} {h : xH} {o : xH} {R : Option xV} {H' : xH} (hD : 0 ≤ d) (hf : f_M_begins_e h = some o) (K0 : ∀ (h1 : xH), o = h1 → R = none ∧ H' = h1) : xEv g l d 194 0 [(0, xr 12 (some 0))] [] h R H' := by
  unfold f_M_begins_e at hf
  refine xs_aload_n d194_0 rfl ?_
  refine xe_getc (j := 0) d194_1 ky194 fl181 fk12_20 rfl ?_
  refine xs_bipush (v := 10) d194_4 (by decide) ?_
  refine xs_iconst (v := 0) d194_6 (by decide) ?_
  obtain ⟨h1, eh1, hf⟩ := lk_let hf
  refine xe_iast d194_7 (by decide) ak56 (show xib (10 : Int32) 101 by decide)  eh1 ?_
  refine xs_aload_n d194_8 rfl ?_
  refine xe_getc (j := 0) d194_9 ky194 fl181 fk12_20 rfl ?_
  refine xs_bipush (v := 11) d194_12 (by decide) ?_
  refine xs_iconst (v := 0) d194_14 (by decide) ?_
  obtain ⟨h2, eh2, hf⟩ := lk_let hf
  refine xe_iast d194_15 (by decide) ak56 (show xib (11 : Int32) 101 by decide)  eh2 ?_
  refine xs_iconst (v := 0) d194_16 (by decide) ?_
  refine xe_istore_n (v := (0 : Int32)) (ls2 := [(0, xr 12 (some 0)), (1, xi (0 : Int32))]) d194_17 mx194 (by decide) rfl rfl ?_
  exact f_M_begins_l18_ok hD hf K0
noncomputable def f_M_begins (h : xH) : Option xH := f_M_begins_e h
theorem f_M_begins_ok {g : xG} {l : Launch} {d : Nat} {h : xH} {h1 : xH} (hD : 0 ≤ d) (hf : f_M_begins h = some h1) : xC g l d 194 [xr 12 (some 0)] h none h1 :=
  xC_of2 (by decide) mx194 (Nat.le_of_ble_eq_true rfl) (f_M_begins_e_ok hD hf (fun _ e => ⟨rfl, e⟩))
theorem d178_0 : decode (xcode 178) 0 = .ok (.aload_n 0, 1) := by decide +kernel
theorem d178_1 : decode (xcode 178) 1 = .ok (.bipush 6, 2) := by decide +kernel
theorem d178_3 : decode (xcode 178) 3 = .ok (.putfield 152, 3) := by decide +kernel
theorem d178_6 : decode (xcode 178) 6 = .ok (.iconst 0, 1) := by decide +kernel
theorem d178_7 : decode (xcode 178) 7 = .ok (.istore_n 1, 1) := by decide +kernel
theorem d178_8 : decode (xcode 178) 8 = .ok (.iload_n 1, 1) := by decide +kernel
theorem d178_9 : decode (xcode 178) 9 = .ok (.bipush 80, 2) := by decide +kernel
theorem d178_11 : decode (xcode 178) 11 = .ok (.if_icmp .ge 16, 3) := by decide +kernel
theorem d178_14 : decode (xcode 178) 14 = .ok (.aload_n 0, 1) := by decide +kernel
theorem d178_15 : decode (xcode 178) 15 = .ok (.getfield 26, 3) := by decide +kernel
theorem d178_18 : decode (xcode 178) 18 = .ok (.iload_n 1, 1) := by decide +kernel
theorem d178_19 : decode (xcode 178) 19 = .ok (.iconst 0, 1) := by decide +kernel
theorem d178_20 : decode (xcode 178) 20 = .ok (.iastore, 1) := by decide +kernel
theorem d178_21 : decode (xcode 178) 21 = .ok (.iinc 1 1, 3) := by decide +kernel
theorem d178_24 : decode (xcode 178) 24 = .ok (.goto (-16), 3) := by decide +kernel
theorem d178_27 : decode (xcode 178) 27 = .ok (.aload_n 0, 1) := by decide +kernel
theorem d178_28 : decode (xcode 178) 28 = .ok (.invokevirtual 266, 3) := by decide +kernel
theorem d178_31 : decode (xcode 178) 31 = .ok (.ifCond .ne 11, 3) := by decide +kernel
theorem d178_34 : decode (xcode 178) 34 = .ok (.bipush (-2), 2) := by decide +kernel
theorem d178_36 : decode (xcode 178) 36 = .ok (.aload_n 0, 1) := by decide +kernel
theorem d178_37 : decode (xcode 178) 37 = .ok (.getfield 93, 3) := by decide +kernel
theorem d178_40 : decode (xcode 178) 40 = .ok (.isub, 1) := by decide +kernel
theorem d178_41 : decode (xcode 178) 41 = .ok (.ireturn, 1) := by decide +kernel
theorem d178_42 : decode (xcode 178) 42 = .ok (.iconst 0, 1) := by decide +kernel
theorem d178_43 : decode (xcode 178) 43 = .ok (.istore_n 1, 1) := by decide +kernel
theorem d178_44 : decode (xcode 178) 44 = .ok (.iload_n 1, 1) := by decide +kernel
theorem d178_45 : decode (xcode 178) 45 = .ok (.bipush 101, 2) := by decide +kernel
theorem d178_47 : decode (xcode 178) 47 = .ok (.if_icmp .ge 31, 3) := by decide +kernel
theorem d178_50 : decode (xcode 178) 50 = .ok (.aload_n 0, 1) := by decide +kernel
theorem d178_51 : decode (xcode 178) 51 = .ok (.getfield 39, 3) := by decide +kernel
theorem d178_54 : decode (xcode 178) 54 = .ok (.iload_n 1, 1) := by decide +kernel
theorem d178_55 : decode (xcode 178) 55 = .ok (.iload_n 1, 1) := by decide +kernel
theorem d178_56 : decode (xcode 178) 56 = .ok (.bipush 80, 2) := by decide +kernel
theorem d178_58 : decode (xcode 178) 58 = .ok (.if_icmp .ge 12, 3) := by decide +kernel
theorem d178_61 : decode (xcode 178) 61 = .ok (.aload_n 0, 1) := by decide +kernel
theorem d178_62 : decode (xcode 178) 62 = .ok (.getfield 26, 3) := by decide +kernel
theorem d178_65 : decode (xcode 178) 65 = .ok (.iload_n 1, 1) := by decide +kernel
theorem d178_66 : decode (xcode 178) 66 = .ok (.iaload, 1) := by decide +kernel
theorem d178_67 : decode (xcode 178) 67 = .ok (.goto 4, 3) := by decide +kernel
theorem d178_70 : decode (xcode 178) 70 = .ok (.iconst 0, 1) := by decide +kernel
theorem d178_71 : decode (xcode 178) 71 = .ok (.iastore, 1) := by decide +kernel
theorem d178_72 : decode (xcode 178) 72 = .ok (.iinc 1 1, 3) := by decide +kernel
theorem d178_75 : decode (xcode 178) 75 = .ok (.goto (-31), 3) := by decide +kernel
theorem d178_78 : decode (xcode 178) 78 = .ok (.aload_n 0, 1) := by decide +kernel
theorem d178_79 : decode (xcode 178) 79 = .ok (.invokevirtual 269, 3) := by decide +kernel
theorem d178_82 : decode (xcode 178) 82 = .ok (.aload_n 0, 1) := by decide +kernel
theorem d178_83 : decode (xcode 178) 83 = .ok (.iconst 0, 1) := by decide +kernel
theorem d178_84 : decode (xcode 178) 84 = .ok (.putfield 272, 3) := by decide +kernel
theorem d178_87 : decode (xcode 178) 87 = .ok (.aload_n 0, 1) := by decide +kernel
theorem d178_88 : decode (xcode 178) 88 = .ok (.getfield 39, 3) := by decide +kernel
theorem d178_91 : decode (xcode 178) 91 = .ok (.iconst 3, 1) := by decide +kernel
theorem d178_92 : decode (xcode 178) 92 = .ok (.iaload, 1) := by decide +kernel
theorem d178_93 : decode (xcode 178) 93 = .ok (.ireturn, 1) := by decide +kernel
noncomputable def f_M_trug_b78 (h : xH) : Option (Int32 × xH) :=
  (f_M_begins h).bind fun h10 =>
  xlet (xsI h10 12 24 0 (0 : Int32)) fun h11 =>
  some ((h11.2.2.2.1 56 0 ((3 : Int32)).toNatClampNeg, h11))
set_option maxHeartbeats 4000000 in
set_option maxRecDepth 100000 in
theorem f_M_trug_b78_ok {g : xG} {l : Launch} {d : Nat} {h : xH} {o : (Int32 × xH)} {R : Option xV} {H' : xH} (hD : 12 ≤ d) (hf : f_M_trug_b78 h = some o) (K0 : ∀ (a : Int32) (h1 : xH), o = (a, h1) → R = some (xi a) ∧ H' = h1) : xEv g l d 178 78 [(0, xr 12 (some 0))] [] h R H' := by
  unfold f_M_trug_b78 at hf
  refine xs_aload_n d178_78 rfl ?_
  obtain ⟨h10, hc9, hf⟩ := lk_b hf
  refine xe_callv0 (as := []) (st := []) (h2 := h10) (d2 := d - 1) d178_79 ky178 ml217 st194 (by decide) cn194 rfl na194 (Nat.le_of_ble_eq_true rfl) (by omega) (f_M_begins_ok (by omega) hc9) ?_
  refine xs_aload_n d178_82 rfl ?_
  refine xs_iconst (v := 0) d178_83 (by decide) ?_
  obtain ⟨h11, eh11, hf⟩ := lk_let hf
  refine xe_puti d178_84 ky178 fl185 fk12_24 ft12_24 eh11 ?_
  refine xs_aload_n d178_87 rfl ?_
  refine xe_getc (j := 0) d178_88 ky178 fl181 fk12_20 rfl ?_
  refine xs_iconst (v := 3) d178_91 (by decide) ?_
  refine xe_iald d178_92 (by decide) ak56 (show xib (3 : Int32) 101 by decide) ?_
  obtain ⟨eR, eH⟩ := K0 _ _ (Option.some.inj hf).symm
  subst eR; subst eH
  exact xs_iret d178_93 rt178
noncomputable def f_M_trug_b71 (v1 : Int32) (t0 : Int32) (t1 : Int32) (h : xH) : Option ((Int32 × xH) ⊕ (Int32 × xH)) :=
  if xib t1 101 then (
  xlet (xsA h 56 0 (upd (h.2.2.2.1 56 0) (t1).toNatClampNeg t0)) fun h14 =>
  xlet (v1 + (1 : Int32)) fun v1_15 =>
  some (Sum.inl (v1_15, h14))) else none
set_option maxHeartbeats 4000000 in
set_option maxRecDepth 100000 in
theorem f_M_trug_b71_ok {g : xG} {l : Launch} {d : Nat} {v1 : Int32} {t0 : Int32} {t1 : Int32} {h : xH} {o : ((Int32 × xH) ⊕ (Int32 × xH))} {R : Option xV} {H' : xH} (hD : 12 ≤ d) (hf : f_M_trug_b71 v1 t0 t1 h = some o) (K1 : ∀ (w1 : Int32) (h1 : xH), o = Sum.inl (w1, h1) → xEv g l d 178 44 [(0, xr 12 (some 0)), (1, xi w1)] [] h1 R H') (K0 : ∀ (a : Int32) (h1 : xH), o = Sum.inr ((a, h1)) → R = some (xi a) ∧ H' = h1) : xEv g l d 178 71 [(0, xr 12 (some 0)), (1, xi v1)] [xi t0, xi t1, xr 56 (some 0)] h R H' := by
  unfold f_M_trug_b71 at hf
  obtain ⟨hin13, hf⟩ := lk_g hf
  obtain ⟨h14, eh14, hf⟩ := lk_let hf
  refine xe_iast d178_71 (by decide) ak56 hin13  eh14 ?_
  obtain ⟨v1_15, ev1_15, hf⟩ := lk_let hf
  refine xe_iinc (v := v1_15) (b := 1) (ls2 := [(0, xr 12 (some 0)), (1, xi v1_15)]) d178_72 mx178 (by decide) rfl (by decide) ev1_15 rfl ?_
  refine xs_goto (tgt := 44) d178_75 (by decide) ?_
  exact K1 _ _ (Option.some.inj hf).symm
noncomputable def f_M_trug_s44 (v1 : Int32) (h : xH) : Option ((Int32 × xH) ⊕ (Int32 × xH)) :=
  if (101 : Int32) ≤ v1 then (
  xup (f_M_trug_b78 h)) else (
  if (80 : Int32) ≤ v1 then (
  f_M_trug_b71 v1 (0 : Int32) v1 h) else (
  if xib v1 80 then (
  f_M_trug_b71 v1 (h.2.2.2.1 52 0 (v1).toNatClampNeg) v1 h) else none))
set_option maxHeartbeats 4000000 in
set_option maxRecDepth 100000 in
theorem f_M_trug_s44_ok {g : xG} {l : Launch} {d : Nat} {v1 : Int32} {h : xH} {o : ((Int32 × xH) ⊕ (Int32 × xH))} {R : Option xV} {H' : xH} (hD : 12 ≤ d) (hf : f_M_trug_s44 v1 h = some o) (K1 : ∀ (w1 : Int32) (h1 : xH), o = Sum.inl (w1, h1) → xEv g l d 178 44 [(0, xr 12 (some 0)), (1, xi w1)] [] h1 R H') (K0 : ∀ (a : Int32) (h1 : xH), o = Sum.inr ((a, h1)) → R = some (xi a) ∧ H' = h1) : xEv g l d 178 44 [(0, xr 12 (some 0)), (1, xi v1)] [] h R H' := by
  unfold f_M_trug_s44 at hf
  refine xs_iload_n d178_44 rfl ?_
  refine xs_bipush (v := 101) d178_45 (by decide) ?_
  rcases lk_if hf with ⟨hc7, hf⟩ | ⟨hc7, hf⟩
  · refine xs_icmp_ge (tgt := 78) d178_47 (by decide) (fun _ => ?_) (fun hn => absurd hc7 hn)
    refine xs_pick [0] rfl ?_
    obtain ⟨x0, hf, ex0⟩ := lk_up hf
    exact f_M_trug_b78_ok hD hf (fun u0 u1 e => K0 u0 u1 (ex0.trans (congrArg Sum.inr e)))
  · refine xs_icmp_ge (tgt := 78) d178_47 (by decide) (fun hp => absurd hp hc7) (fun _ => ?_)
    refine xs_aload_n d178_50 rfl ?_
    refine xe_getc (j := 0) d178_51 ky178 fl181 fk12_20 rfl ?_
    refine xs_iload_n d178_54 rfl ?_
    refine xs_iload_n d178_55 rfl ?_
    refine xs_bipush (v := 80) d178_56 (by decide) ?_
    rcases lk_if hf with ⟨hc12, hf⟩ | ⟨hc12, hf⟩
    · refine xs_icmp_ge (tgt := 70) d178_58 (by decide) (fun _ => ?_) (fun hn => absurd hc12 hn)
      refine xs_iconst (v := 0) d178_70 (by decide) ?_
      exact f_M_trug_b71_ok hD hf K1 K0
    · refine xs_icmp_ge (tgt := 70) d178_58 (by decide) (fun hp => absurd hp hc12) (fun _ => ?_)
      refine xs_aload_n d178_61 rfl ?_
      refine xe_getc (j := 0) d178_62 ky178 fl168 fk12_7 rfl ?_
      refine xs_iload_n d178_65 rfl ?_
      obtain ⟨hin16, hf⟩ := lk_g hf
      refine xe_iald d178_66 (by decide) ak52 hin16 ?_
      refine xs_goto (tgt := 71) d178_67 (by decide) ?_
      exact f_M_trug_b71_ok hD hf K1 K0
noncomputable def f_M_trug_l44 (v1 : Int32) (h : xH) : Option (Int32 × xH) :=
  whl (fun s => f_M_trug_s44 s.1 s.2) (v1, h)
theorem f_M_trug_l44_ok {g : xG} {l : Launch} {d : Nat} {v1 : Int32} {h : xH} {o : (Int32 × xH)} {R : Option xV} {H' : xH} (hD : 12 ≤ d) (hf : f_M_trug_l44 v1 h = some o) (K0 : ∀ (a : Int32) (h1 : xH), o = (a, h1) → R = some (xi a) ∧ H' = h1) : xEv g l d 178 44 [(0, xr 12 (some 0)), (1, xi v1)] [] h R H' := by
  obtain ⟨n, hn⟩ := whl_iff.mp hf
  clear hf
  induction n generalizing v1 h with
  | zero => cases hn
  | succ n ih =>
    obtain ⟨o2, hs, hn⟩ := lk_b (show (f_M_trug_s44 v1 h).bind (fun o => Sum.elim (itn _ n) some o) = some o from hn)
    exact f_M_trug_s44_ok hD hs (fun u0 u1 e => ih (by rw [e] at hn; exact hn)) (fun u0 u1 e => K0 u0 u1 (by rw [e] at hn; exact (Option.some.inj hn).symm))
noncomputable def f_M_trug_b27 (h : xH) : Option (Int32 × xH) :=
  (f_M_readsAll h).bind fun q5 =>
  if q5.1 = (0 : Int32) then (
  some (((-2 : Int32) - (q5.2.1 12 9 0), q5.2))) else (
  f_M_trug_l44 (0 : Int32) q5.2)
set_option maxHeartbeats 4000000 in
set_option maxRecDepth 100000 in
theorem f_M_trug_b27_ok {g : xG} {l : Launch} {d : Nat} {h : xH} {o : (Int32 × xH)} {R : Option xV} {H' : xH} (hD : 12 ≤ d) (hf : f_M_trug_b27 h = some o) (K0 : ∀ (a : Int32) (h1 : xH), o = (a, h1) → R = some (xi a) ∧ H' = h1) : xEv g l d 178 27 [(0, xr 12 (some 0))] [] h R H' := by
  unfold f_M_trug_b27 at hf
  refine xs_aload_n d178_27 rfl ?_
  obtain ⟨q5, hc4, hf⟩ := lk_b hf
  refine xe_callv1 (as := []) (st := []) (h2 := q5.2) (d2 := d - 1) d178_28 ky178 ml183 st176 (by decide) cn176 rfl na176 (Nat.le_of_ble_eq_true rfl) (by omega) (f_M_readsAll_ok (by omega) hc4) ?_
  rcases lk_if hf with ⟨hc6, hf⟩ | ⟨hc6, hf⟩
  · refine xs_if_ne (tgt := 42) d178_31 (by decide) (fun _ => ?_) (fun hn => absurd hc6 hn)
    refine xs_bipush (v := -2) d178_34 (by decide) ?_
    refine xs_aload_n d178_36 rfl ?_
    refine xe_geti d178_37 ky178 fl170 fk12_9 ?_
    refine xs_isub d178_40 ?_
    obtain ⟨eR, eH⟩ := K0 _ _ (Option.some.inj hf).symm
    subst eR; subst eH
    exact xs_iret d178_41 rt178
  · refine xs_if_ne (tgt := 42) d178_31 (by decide) (fun hp => absurd hp hc6) (fun _ => ?_)
    refine xs_iconst (v := 0) d178_42 (by decide) ?_
    refine xe_istore_n (v := (0 : Int32)) (ls2 := [(0, xr 12 (some 0)), (1, xi (0 : Int32))]) d178_43 mx178 (by decide) rfl rfl ?_
    exact f_M_trug_l44_ok hD hf K0
noncomputable def f_M_trug_s8 (v1 : Int32) (h : xH) : Option ((Int32 × xH) ⊕ (Int32 × xH)) :=
  if (80 : Int32) ≤ v1 then (
  xup (f_M_trug_b27 h)) else (
  if xib v1 80 then (
  xlet (xsA h 52 0 (upd (h.2.2.2.1 52 0) (v1).toNatClampNeg (0 : Int32))) fun h18 =>
  xlet (v1 + (1 : Int32)) fun v1_19 =>
  some (Sum.inl (v1_19, h18))) else none)
set_option maxHeartbeats 4000000 in
set_option maxRecDepth 100000 in
theorem f_M_trug_s8_ok {g : xG} {l : Launch} {d : Nat} {v1 : Int32} {h : xH} {o : ((Int32 × xH) ⊕ (Int32 × xH))} {R : Option xV} {H' : xH} (hD : 12 ≤ d) (hf : f_M_trug_s8 v1 h = some o) (K1 : ∀ (w1 : Int32) (h1 : xH), o = Sum.inl (w1, h1) → xEv g l d 178 8 [(0, xr 12 (some 0)), (1, xi w1)] [] h1 R H') (K0 : ∀ (a : Int32) (h1 : xH), o = Sum.inr ((a, h1)) → R = some (xi a) ∧ H' = h1) : xEv g l d 178 8 [(0, xr 12 (some 0)), (1, xi v1)] [] h R H' := by
  unfold f_M_trug_s8 at hf
  refine xs_iload_n d178_8 rfl ?_
  refine xs_bipush (v := 80) d178_9 (by decide) ?_
  rcases lk_if hf with ⟨hc2, hf⟩ | ⟨hc2, hf⟩
  · refine xs_icmp_ge (tgt := 27) d178_11 (by decide) (fun _ => ?_) (fun hn => absurd hc2 hn)
    refine xs_pick [0] rfl ?_
    obtain ⟨x0, hf, ex0⟩ := lk_up hf
    exact f_M_trug_b27_ok hD hf (fun u0 u1 e => K0 u0 u1 (ex0.trans (congrArg Sum.inr e)))
  · refine xs_icmp_ge (tgt := 27) d178_11 (by decide) (fun hp => absurd hp hc2) (fun _ => ?_)
    refine xs_aload_n d178_14 rfl ?_
    refine xe_getc (j := 0) d178_15 ky178 fl168 fk12_7 rfl ?_
    refine xs_iload_n d178_18 rfl ?_
    refine xs_iconst (v := 0) d178_19 (by decide) ?_
    obtain ⟨hin17, hf⟩ := lk_g hf
    obtain ⟨h18, eh18, hf⟩ := lk_let hf
    refine xe_iast d178_20 (by decide) ak52 hin17  eh18 ?_
    obtain ⟨v1_19, ev1_19, hf⟩ := lk_let hf
    refine xe_iinc (v := v1_19) (b := 1) (ls2 := [(0, xr 12 (some 0)), (1, xi v1_19)]) d178_21 mx178 (by decide) rfl (by decide) ev1_19 rfl ?_
    refine xs_goto (tgt := 8) d178_24 (by decide) ?_
    exact K1 _ _ (Option.some.inj hf).symm
noncomputable def f_M_trug_l8 (v1 : Int32) (h : xH) : Option (Int32 × xH) :=
  whl (fun s => f_M_trug_s8 s.1 s.2) (v1, h)
theorem f_M_trug_l8_ok {g : xG} {l : Launch} {d : Nat} {v1 : Int32} {h : xH} {o : (Int32 × xH)} {R : Option xV} {H' : xH} (hD : 12 ≤ d) (hf : f_M_trug_l8 v1 h = some o) (K0 : ∀ (a : Int32) (h1 : xH), o = (a, h1) → R = some (xi a) ∧ H' = h1) : xEv g l d 178 8 [(0, xr 12 (some 0)), (1, xi v1)] [] h R H' := by
  obtain ⟨n, hn⟩ := whl_iff.mp hf
  clear hf
  induction n generalizing v1 h with
  | zero => cases hn
  | succ n ih =>
    obtain ⟨o2, hs, hn⟩ := lk_b (show (f_M_trug_s8 v1 h).bind (fun o => Sum.elim (itn _ n) some o) = some o from hn)
    exact f_M_trug_s8_ok hD hs (fun u0 u1 e => ih (by rw [e] at hn; exact hn)) (fun u0 u1 e => K0 u0 u1 (by rw [e] at hn; exact (Option.some.inj hn).symm))
noncomputable def f_M_trug_e (h : xH) : Option (Int32 × xH) :=
  xlet (xsI h 12 11 0 (6 : Int32)) fun h1 =>
  f_M_trug_l8 (0 : Int32) h1
set_option maxHeartbeats 4000000 in
set_option maxRecDepth 100000 in
theorem f_M_trug_e_ok {g : xG} {l : Launch} {d : Nat} {h : xH} {o : (Int32 × xH)} {R : Option xV} {H' : xH} (hD : 12 ≤ d) (hf : f_M_trug_e h = some o) (K0 : ∀ (a : Int32) (h1 : xH), o = (a, h1) → R = some (xi a) ∧ H' = h1) : xEv g l d 178 0 [(0, xr 12 (some 0))] [] h R H' := by
  unfold f_M_trug_e at hf
  refine xs_aload_n d178_0 rfl ?_
  refine xs_bipush (v := 6) d178_1 (by decide) ?_
  obtain ⟨h1, eh1, hf⟩ := lk_let hf
  refine xe_puti d178_3 ky178 fl172 fk12_11 ft12_11 eh1 ?_
  refine xs_iconst (v := 0) d178_6 (by decide) ?_
  refine xe_istore_n (v := (0 : Int32)) (ls2 := [(0, xr 12 (some 0)), (1, xi (0 : Int32))]) d178_7 mx178 (by decide) rfl rfl ?_
  exact f_M_trug_l8_ok hD hf K0
noncomputable def f_M_trug (h : xH) : Option (Int32 × xH) := f_M_trug_e h
theorem f_M_trug_ok {g : xG} {l : Launch} {d : Nat} {h : xH} {r : Int32} {h1 : xH} (hD : 12 ≤ d) (hf : f_M_trug h = some (r, h1)) : xC g l d 178 [xr 12 (some 0)] h (some (xi r)) h1 :=
  xC_of2 (by decide) mx178 (Nat.le_of_ble_eq_true rfl) (f_M_trug_e_ok hD hf (fun _ _ e => by cases e; exact ⟨rfl, rfl⟩))
theorem d179_0 : decode (xcode 179) 0 = .ok (.iload_n 1, 1) := by decide +kernel
theorem d179_1 : decode (xcode 179) 1 = .ok (.ifCond .lt 15, 3) := by decide +kernel
theorem d179_4 : decode (xcode 179) 4 = .ok (.iload_n 1, 1) := by decide +kernel
theorem d179_5 : decode (xcode 179) 5 = .ok (.aload_n 0, 1) := by decide +kernel
theorem d179_6 : decode (xcode 179) 6 = .ok (.getfield 263, 3) := by decide +kernel
theorem d179_9 : decode (xcode 179) 9 = .ok (.if_icmp .ge 7, 3) := by decide +kernel
theorem d179_12 : decode (xcode 179) 12 = .ok (.iconst 1, 1) := by decide +kernel
theorem d179_13 : decode (xcode 179) 13 = .ok (.goto 4, 3) := by decide +kernel
theorem d179_16 : decode (xcode 179) 16 = .ok (.iconst 0, 1) := by decide +kernel
theorem d179_17 : decode (xcode 179) 17 = .ok (.ireturn, 1) := by decide +kernel
noncomputable def f_M_isRule_e (v1 : Int32) (h : xH) : Option Int32 :=
  if v1 < (0 : Int32) then (
  some ((0 : Int32))) else (
  if (h.1 12 2 0) ≤ v1 then (
  some ((0 : Int32))) else (
  some ((1 : Int32))))
set_option maxHeartbeats 4000000 in
set_option maxRecDepth 100000 in
theorem f_M_isRule_e_ok {g : xG} {l : Launch} {d : Nat} {v1 : Int32} {h : xH} {o : Int32} {R : Option xV} (hD : 0 ≤ d) (hf : f_M_isRule_e v1 h = some o) (K0 : ∀ (a : Int32), o = a → R = some (xi a)) : xEv g l d 179 0 [(0, xr 12 (some 0)), (1, xi v1)] [] h R h := by
  unfold f_M_isRule_e at hf
  refine xs_iload_n d179_0 rfl ?_
  rcases lk_if hf with ⟨hc1, hf⟩ | ⟨hc1, hf⟩
  · refine xs_if_lt (tgt := 16) d179_1 (by decide) (fun _ => ?_) (fun hn => absurd hc1 hn)
    refine xs_iconst (v := 0) d179_16 (by decide) ?_
    obtain eR := K0 _ (Option.some.inj hf).symm
    subst eR
    exact xe_zret d179_17 (Or.inl rfl) rt179
  · refine xs_if_lt (tgt := 16) d179_1 (by decide) (fun hp => absurd hp hc1) (fun _ => ?_)
    refine xs_iload_n d179_4 rfl ?_
    refine xs_aload_n d179_5 rfl ?_
    refine xe_geti d179_6 ky179 fl163 fk12_2 ?_
    rcases lk_if hf with ⟨hc2, hf⟩ | ⟨hc2, hf⟩
    · refine xs_icmp_ge (tgt := 16) d179_9 (by decide) (fun _ => ?_) (fun hn => absurd hc2 hn)
      refine xs_iconst (v := 0) d179_16 (by decide) ?_
      obtain eR := K0 _ (Option.some.inj hf).symm
      subst eR
      exact xe_zret d179_17 (Or.inl rfl) rt179
    · refine xs_icmp_ge (tgt := 16) d179_9 (by decide) (fun hp => absurd hp hc2) (fun _ => ?_)
      refine xs_iconst (v := 1) d179_12 (by decide) ?_
      refine xs_goto (tgt := 17) d179_13 (by decide) ?_
      obtain eR := K0 _ (Option.some.inj hf).symm
      subst eR
      exact xe_zret d179_17 (Or.inr rfl) rt179
noncomputable def f_M_isRule (v1 : Int32) (h : xH) : Option Int32 := f_M_isRule_e v1 h
theorem f_M_isRule_ok {g : xG} {l : Launch} {d : Nat} {v1 : Int32} {h : xH} {r : Int32} (hD : 0 ≤ d) (hf : f_M_isRule v1 h = some r) : xC g l d 179 [xr 12 (some 0), xi v1] h (some (xi r)) h :=
  xC_of2 (by decide) mx179 (Nat.le_of_ble_eq_true rfl) (f_M_isRule_e_ok hD hf (fun _ e => by rw [e]))
theorem d180_0 : decode (xcode 180) 0 = .ok (.aload_n 0, 1) := by decide +kernel
theorem d180_1 : decode (xcode 180) 1 = .ok (.getfield 32, 3) := by decide +kernel
theorem d180_4 : decode (xcode 180) 4 = .ok (.aload_n 0, 1) := by decide +kernel
theorem d180_5 : decode (xcode 180) 5 = .ok (.getfield 275, 3) := by decide +kernel
theorem d180_8 : decode (xcode 180) 8 = .ok (.lload_n 1, 1) := by decide +kernel
theorem d180_9 : decode (xcode 180) 9 = .ok (.lastore, 1) := by decide +kernel
theorem d180_10 : decode (xcode 180) 10 = .ok (.aload_n 0, 1) := by decide +kernel
theorem d180_11 : decode (xcode 180) 11 = .ok (.dup, 1) := by decide +kernel
theorem d180_12 : decode (xcode 180) 12 = .ok (.getfield 275, 3) := by decide +kernel
theorem d180_15 : decode (xcode 180) 15 = .ok (.iconst 1, 1) := by decide +kernel
theorem d180_16 : decode (xcode 180) 16 = .ok (.iadd, 1) := by decide +kernel
theorem d180_17 : decode (xcode 180) 17 = .ok (.putfield 275, 3) := by decide +kernel
theorem d180_20 : decode (xcode 180) 20 = .ok (.return_, 1) := by decide +kernel
noncomputable def f_M_push_e (v1 : Int64) (h : xH) : Option xH :=
  if xib (h.1 12 18 0) 64 then (
  xlet (xsB h 54 0 (vp_updL (h.2.2.2.2 54 0) (h.1 12 18 0).toNatClampNeg v1)) fun h2 =>
  xlet (xsI h2 12 18 0 ((h2.1 12 18 0) + (1 : Int32))) fun h3 =>
  some (h3)) else none
set_option maxHeartbeats 4000000 in
set_option maxRecDepth 100000 in
theorem f_M_push_e_ok {g : xG} {l : Launch} {d : Nat} {v1 : Int64} {h : xH} {o : xH} {R : Option xV} {H' : xH} (hD : 0 ≤ d) (hf : f_M_push_e v1 h = some o) (K0 : ∀ (h1 : xH), o = h1 → R = none ∧ H' = h1) : xEv g l d 180 0 [(0, xr 12 (some 0)), (1, xl v1)] [] h R H' := by
  unfold f_M_push_e at hf
  refine xs_aload_n d180_0 rfl ?_
  refine xe_getc (j := 0) d180_1 ky180 fl178 fk12_17 rfl ?_
  refine xs_aload_n d180_4 rfl ?_
  refine xe_geti d180_5 ky180 fl179 fk12_18 ?_
  refine xs_lload_n d180_8 rfl ?_
  obtain ⟨hin1, hf⟩ := lk_g hf
  obtain ⟨h2, eh2, hf⟩ := lk_let hf
  refine xe_last d180_9 (by decide) ak54 hin1  eh2 ?_
  refine xs_aload_n d180_10 rfl ?_
  refine xs_dup d180_11 rfl ?_
  refine xe_geti d180_12 ky180 fl179 fk12_18 ?_
  refine xs_iconst (v := 1) d180_15 (by decide) ?_
  refine xs_iadd d180_16 ?_
  obtain ⟨h3, eh3, hf⟩ := lk_let hf
  refine xe_puti d180_17 ky180 fl179 fk12_18 ft12_18 eh3 ?_
  obtain ⟨eR, eH⟩ := K0 _ (Option.some.inj hf).symm
  subst eR; subst eH
  exact xs_vret d180_20 rt180
noncomputable def f_M_push (v1 : Int64) (h : xH) : Option xH := f_M_push_e v1 h
theorem f_M_push_ok {g : xG} {l : Launch} {d : Nat} {v1 : Int64} {h : xH} {h1 : xH} (hD : 0 ≤ d) (hf : f_M_push v1 h = some h1) : xC g l d 180 [xr 12 (some 0), xl v1] h none h1 :=
  xC_of2 (by decide) mx180 (Nat.le_of_ble_eq_true rfl) (f_M_push_e_ok hD hf (fun _ e => ⟨rfl, e⟩))
theorem d181_0 : decode (xcode 181) 0 = .ok (.aload_n 0, 1) := by decide +kernel
theorem d181_1 : decode (xcode 181) 1 = .ok (.dup, 1) := by decide +kernel
theorem d181_2 : decode (xcode 181) 2 = .ok (.getfield 275, 3) := by decide +kernel
theorem d181_5 : decode (xcode 181) 5 = .ok (.iconst 1, 1) := by decide +kernel
theorem d181_6 : decode (xcode 181) 6 = .ok (.isub, 1) := by decide +kernel
theorem d181_7 : decode (xcode 181) 7 = .ok (.putfield 275, 3) := by decide +kernel
theorem d181_10 : decode (xcode 181) 10 = .ok (.aload_n 0, 1) := by decide +kernel
theorem d181_11 : decode (xcode 181) 11 = .ok (.getfield 32, 3) := by decide +kernel
theorem d181_14 : decode (xcode 181) 14 = .ok (.aload_n 0, 1) := by decide +kernel
theorem d181_15 : decode (xcode 181) 15 = .ok (.getfield 275, 3) := by decide +kernel
theorem d181_18 : decode (xcode 181) 18 = .ok (.laload, 1) := by decide +kernel
theorem d181_19 : decode (xcode 181) 19 = .ok (.lreturn, 1) := by decide +kernel
noncomputable def f_M_pop_e (h : xH) : Option (Int64 × xH) :=
  xlet (xsI h 12 18 0 ((h.1 12 18 0) - (1 : Int32))) fun h1 =>
  if xib (h1.1 12 18 0) 64 then (
  some ((h1.2.2.2.2 54 0 (h1.1 12 18 0).toNatClampNeg, h1))) else none
set_option maxHeartbeats 4000000 in
set_option maxRecDepth 100000 in
theorem f_M_pop_e_ok {g : xG} {l : Launch} {d : Nat} {h : xH} {o : (Int64 × xH)} {R : Option xV} {H' : xH} (hD : 0 ≤ d) (hf : f_M_pop_e h = some o) (K0 : ∀ (a : Int64) (h1 : xH), o = (a, h1) → R = some (xl a) ∧ H' = h1) : xEv g l d 181 0 [(0, xr 12 (some 0))] [] h R H' := by
  unfold f_M_pop_e at hf
  refine xs_aload_n d181_0 rfl ?_
  refine xs_dup d181_1 rfl ?_
  refine xe_geti d181_2 ky181 fl179 fk12_18 ?_
  refine xs_iconst (v := 1) d181_5 (by decide) ?_
  refine xs_isub d181_6 ?_
  obtain ⟨h1, eh1, hf⟩ := lk_let hf
  refine xe_puti d181_7 ky181 fl179 fk12_18 ft12_18 eh1 ?_
  refine xs_aload_n d181_10 rfl ?_
  refine xe_getc (j := 0) d181_11 ky181 fl178 fk12_17 rfl ?_
  refine xs_aload_n d181_14 rfl ?_
  refine xe_geti d181_15 ky181 fl179 fk12_18 ?_
  obtain ⟨hin2, hf⟩ := lk_g hf
  refine xe_lald d181_18 (by decide) ak54 hin2 ?_
  obtain ⟨eR, eH⟩ := K0 _ _ (Option.some.inj hf).symm
  subst eR; subst eH
  exact xs_lret d181_19 rt181
noncomputable def f_M_pop (h : xH) : Option (Int64 × xH) := f_M_pop_e h
theorem f_M_pop_ok {g : xG} {l : Launch} {d : Nat} {h : xH} {r : Int64} {h1 : xH} (hD : 0 ≤ d) (hf : f_M_pop h = some (r, h1)) : xC g l d 181 [xr 12 (some 0)] h (some (xl r)) h1 :=
  xC_of2 (by decide) mx181 (Nat.le_of_ble_eq_true rfl) (f_M_pop_e_ok hD hf (fun _ _ e => by cases e; exact ⟨rfl, rfl⟩))
theorem d182_0 : decode (xcode 182) 0 = .ok (.iload_n 0, 1) := by decide +kernel
theorem d182_1 : decode (xcode 182) 1 = .ok (.tableswitch 171 2 14 #[67, 71, 75, 79, 107, 119, 131, 143, 155, 171, 167, 171, 93], 67) := by decide +kernel
theorem d182_68 : decode (xcode 182) 68 = .ok (.lload_n 1, 1) := by decide +kernel
theorem d182_69 : decode (xcode 182) 69 = .ok (.lload_n 3, 1) := by decide +kernel
theorem d182_70 : decode (xcode 182) 70 = .ok (.ladd, 1) := by decide +kernel
theorem d182_71 : decode (xcode 182) 71 = .ok (.lreturn, 1) := by decide +kernel
theorem d182_72 : decode (xcode 182) 72 = .ok (.lload_n 1, 1) := by decide +kernel
theorem d182_73 : decode (xcode 182) 73 = .ok (.lload_n 3, 1) := by decide +kernel
theorem d182_74 : decode (xcode 182) 74 = .ok (.lsub, 1) := by decide +kernel
theorem d182_75 : decode (xcode 182) 75 = .ok (.lreturn, 1) := by decide +kernel
theorem d182_76 : decode (xcode 182) 76 = .ok (.lload_n 1, 1) := by decide +kernel
theorem d182_77 : decode (xcode 182) 77 = .ok (.lload_n 3, 1) := by decide +kernel
theorem d182_78 : decode (xcode 182) 78 = .ok (.lmul, 1) := by decide +kernel
theorem d182_79 : decode (xcode 182) 79 = .ok (.lreturn, 1) := by decide +kernel
theorem d182_80 : decode (xcode 182) 80 = .ok (.lload_n 3, 1) := by decide +kernel
theorem d182_81 : decode (xcode 182) 81 = .ok (.lconst 0, 1) := by decide +kernel
theorem d182_82 : decode (xcode 182) 82 = .ok (.lcmp, 1) := by decide +kernel
theorem d182_83 : decode (xcode 182) 83 = .ok (.ifCond .ne 7, 3) := by decide +kernel
theorem d182_86 : decode (xcode 182) 86 = .ok (.lconst 0, 1) := by decide +kernel
theorem d182_87 : decode (xcode 182) 87 = .ok (.goto 6, 3) := by decide +kernel
theorem d182_90 : decode (xcode 182) 90 = .ok (.lload_n 1, 1) := by decide +kernel
theorem d182_91 : decode (xcode 182) 91 = .ok (.lload_n 3, 1) := by decide +kernel
theorem d182_92 : decode (xcode 182) 92 = .ok (.ldiv, 1) := by decide +kernel
theorem d182_93 : decode (xcode 182) 93 = .ok (.lreturn, 1) := by decide +kernel
theorem d182_94 : decode (xcode 182) 94 = .ok (.lload_n 3, 1) := by decide +kernel
theorem d182_95 : decode (xcode 182) 95 = .ok (.lconst 0, 1) := by decide +kernel
theorem d182_96 : decode (xcode 182) 96 = .ok (.lcmp, 1) := by decide +kernel
theorem d182_97 : decode (xcode 182) 97 = .ok (.ifCond .ne 7, 3) := by decide +kernel
theorem d182_100 : decode (xcode 182) 100 = .ok (.lconst 0, 1) := by decide +kernel
theorem d182_101 : decode (xcode 182) 101 = .ok (.goto 6, 3) := by decide +kernel
theorem d182_104 : decode (xcode 182) 104 = .ok (.lload_n 1, 1) := by decide +kernel
theorem d182_105 : decode (xcode 182) 105 = .ok (.lload_n 3, 1) := by decide +kernel
theorem d182_106 : decode (xcode 182) 106 = .ok (.lrem, 1) := by decide +kernel
theorem d182_107 : decode (xcode 182) 107 = .ok (.lreturn, 1) := by decide +kernel
theorem d182_108 : decode (xcode 182) 108 = .ok (.lload_n 1, 1) := by decide +kernel
theorem d182_109 : decode (xcode 182) 109 = .ok (.lload_n 3, 1) := by decide +kernel
theorem d182_110 : decode (xcode 182) 110 = .ok (.lcmp, 1) := by decide +kernel
theorem d182_111 : decode (xcode 182) 111 = .ok (.ifCond .ge 7, 3) := by decide +kernel
theorem d182_114 : decode (xcode 182) 114 = .ok (.lconst 1, 1) := by decide +kernel
theorem d182_115 : decode (xcode 182) 115 = .ok (.goto 4, 3) := by decide +kernel
theorem d182_118 : decode (xcode 182) 118 = .ok (.lconst 0, 1) := by decide +kernel
theorem d182_119 : decode (xcode 182) 119 = .ok (.lreturn, 1) := by decide +kernel
theorem d182_120 : decode (xcode 182) 120 = .ok (.lload_n 1, 1) := by decide +kernel
theorem d182_121 : decode (xcode 182) 121 = .ok (.lload_n 3, 1) := by decide +kernel
theorem d182_122 : decode (xcode 182) 122 = .ok (.lcmp, 1) := by decide +kernel
theorem d182_123 : decode (xcode 182) 123 = .ok (.ifCond .gt 7, 3) := by decide +kernel
theorem d182_126 : decode (xcode 182) 126 = .ok (.lconst 1, 1) := by decide +kernel
theorem d182_127 : decode (xcode 182) 127 = .ok (.goto 4, 3) := by decide +kernel
theorem d182_130 : decode (xcode 182) 130 = .ok (.lconst 0, 1) := by decide +kernel
theorem d182_131 : decode (xcode 182) 131 = .ok (.lreturn, 1) := by decide +kernel
theorem d182_132 : decode (xcode 182) 132 = .ok (.lload_n 1, 1) := by decide +kernel
theorem d182_133 : decode (xcode 182) 133 = .ok (.lload_n 3, 1) := by decide +kernel
theorem d182_134 : decode (xcode 182) 134 = .ok (.lcmp, 1) := by decide +kernel
theorem d182_135 : decode (xcode 182) 135 = .ok (.ifCond .ne 7, 3) := by decide +kernel
theorem d182_138 : decode (xcode 182) 138 = .ok (.lconst 1, 1) := by decide +kernel
theorem d182_139 : decode (xcode 182) 139 = .ok (.goto 4, 3) := by decide +kernel
theorem d182_142 : decode (xcode 182) 142 = .ok (.lconst 0, 1) := by decide +kernel
theorem d182_143 : decode (xcode 182) 143 = .ok (.lreturn, 1) := by decide +kernel
theorem d182_144 : decode (xcode 182) 144 = .ok (.lload_n 1, 1) := by decide +kernel
theorem d182_145 : decode (xcode 182) 145 = .ok (.lload_n 3, 1) := by decide +kernel
theorem d182_146 : decode (xcode 182) 146 = .ok (.lcmp, 1) := by decide +kernel
theorem d182_147 : decode (xcode 182) 147 = .ok (.ifCond .lt 7, 3) := by decide +kernel
theorem d182_150 : decode (xcode 182) 150 = .ok (.lconst 1, 1) := by decide +kernel
theorem d182_151 : decode (xcode 182) 151 = .ok (.goto 4, 3) := by decide +kernel
theorem d182_154 : decode (xcode 182) 154 = .ok (.lconst 0, 1) := by decide +kernel
theorem d182_155 : decode (xcode 182) 155 = .ok (.lreturn, 1) := by decide +kernel
theorem d182_156 : decode (xcode 182) 156 = .ok (.lload_n 1, 1) := by decide +kernel
theorem d182_157 : decode (xcode 182) 157 = .ok (.lload_n 3, 1) := by decide +kernel
theorem d182_158 : decode (xcode 182) 158 = .ok (.lcmp, 1) := by decide +kernel
theorem d182_159 : decode (xcode 182) 159 = .ok (.ifCond .le 7, 3) := by decide +kernel
theorem d182_162 : decode (xcode 182) 162 = .ok (.lconst 1, 1) := by decide +kernel
theorem d182_163 : decode (xcode 182) 163 = .ok (.goto 4, 3) := by decide +kernel
theorem d182_166 : decode (xcode 182) 166 = .ok (.lconst 0, 1) := by decide +kernel
theorem d182_167 : decode (xcode 182) 167 = .ok (.lreturn, 1) := by decide +kernel
theorem d182_168 : decode (xcode 182) 168 = .ok (.lload_n 1, 1) := by decide +kernel
theorem d182_169 : decode (xcode 182) 169 = .ok (.lload_n 3, 1) := by decide +kernel
theorem d182_170 : decode (xcode 182) 170 = .ok (.land, 1) := by decide +kernel
theorem d182_171 : decode (xcode 182) 171 = .ok (.lreturn, 1) := by decide +kernel
theorem d182_172 : decode (xcode 182) 172 = .ok (.lload_n 1, 1) := by decide +kernel
theorem d182_173 : decode (xcode 182) 173 = .ok (.lload_n 3, 1) := by decide +kernel
theorem d182_174 : decode (xcode 182) 174 = .ok (.lor, 1) := by decide +kernel
theorem d182_175 : decode (xcode 182) 175 = .ok (.lreturn, 1) := by decide +kernel
noncomputable def f_M_one_e (v0 : Int32) (v1 : Int64) (v3 : Int64) (h : xH) : Option Int64 :=
  if v0 = (2 : Int32) then (
  some (v1 + v3)) else (
  if v0 = (3 : Int32) then (
  some (v1 - v3)) else (
  if v0 = (4 : Int32) then (
  some (v1 * v3)) else (
  if v0 = (5 : Int32) then (
  if (lg_cmp v3 (0 : Int64)) = (0 : Int32) then (
  some ((0 : Int64))) else (
  if ¬ v3 = 0 then (
  some (v1 / v3)) else none)) else (
  if v0 = (6 : Int32) then (
  if (0 : Int32) ≤ (lg_cmp v1 v3) then (
  some ((0 : Int64))) else (
  some ((1 : Int64)))) else (
  if v0 = (7 : Int32) then (
  if (0 : Int32) < (lg_cmp v1 v3) then (
  some ((0 : Int64))) else (
  some ((1 : Int64)))) else (
  if v0 = (8 : Int32) then (
  if (lg_cmp v1 v3) = (0 : Int32) then (
  some ((1 : Int64))) else (
  some ((0 : Int64)))) else (
  if v0 = (9 : Int32) then (
  if (lg_cmp v1 v3) < (0 : Int32) then (
  some ((0 : Int64))) else (
  some ((1 : Int64)))) else (
  if v0 = (10 : Int32) then (
  if (lg_cmp v1 v3) ≤ (0 : Int32) then (
  some ((0 : Int64))) else (
  some ((1 : Int64)))) else (
  if v0 = (11 : Int32) then (
  some (v1 ||| v3)) else (
  if v0 = (12 : Int32) then (
  some (v1 &&& v3)) else (
  if v0 = (13 : Int32) then (
  some (v1 ||| v3)) else (
  if v0 = (14 : Int32) then (
  if (lg_cmp v3 (0 : Int64)) = (0 : Int32) then (
  some ((0 : Int64))) else (
  if ¬ v3 = 0 then (
  some (v1 - v1 / v3 * v3)) else none)) else (
  some (v1 ||| v3))))))))))))))
set_option maxHeartbeats 4000000 in
set_option maxRecDepth 100000 in
theorem f_M_one_e_ok {g : xG} {l : Launch} {d : Nat} {v0 : Int32} {v1 : Int64} {v3 : Int64} {h : xH} {o : Int64} {R : Option xV} (hD : 0 ≤ d) (hf : f_M_one_e v0 v1 v3 h = some o) (K0 : ∀ (a : Int64), o = a → R = some (xl a)) : xEv g l d 182 0 [(0, xi v0), (1, xl v1), (3, xl v3)] [] h R h := by
  unfold f_M_one_e at hf
  refine xs_iload_n d182_0 rfl ?_
  rcases lk_if hf with ⟨hc1, hf⟩ | ⟨hc1, hf⟩
  · refine xs_tableIn (tgt := 68) d182_1 (by rw [hc1]; decide) (by rw [hc1]; decide) (by rw [hc1]; first | done | rfl) (by decide) ?_
    refine xs_lload_n d182_68 rfl ?_
    refine xs_lload_n d182_69 rfl ?_
    refine xs_ladd d182_70 ?_
    obtain eR := K0 _ (Option.some.inj hf).symm
    subst eR
    exact xs_lret d182_71 rt182
  · skip
    rcases lk_if hf with ⟨hc2, hf⟩ | ⟨hc2, hf⟩
    · refine xs_tableIn (tgt := 72) d182_1 (by rw [hc2]; decide) (by rw [hc2]; decide) (by rw [hc2]; first | done | rfl) (by decide) ?_
      refine xs_lload_n d182_72 rfl ?_
      refine xs_lload_n d182_73 rfl ?_
      refine xs_lsub d182_74 ?_
      obtain eR := K0 _ (Option.some.inj hf).symm
      subst eR
      exact xs_lret d182_75 rt182
    · skip
      rcases lk_if hf with ⟨hc3, hf⟩ | ⟨hc3, hf⟩
      · refine xs_tableIn (tgt := 76) d182_1 (by rw [hc3]; decide) (by rw [hc3]; decide) (by rw [hc3]; first | done | rfl) (by decide) ?_
        refine xs_lload_n d182_76 rfl ?_
        refine xs_lload_n d182_77 rfl ?_
        refine xs_lmul d182_78 ?_
        obtain eR := K0 _ (Option.some.inj hf).symm
        subst eR
        exact xs_lret d182_79 rt182
      · skip
        rcases lk_if hf with ⟨hc4, hf⟩ | ⟨hc4, hf⟩
        · refine xs_tableIn (tgt := 80) d182_1 (by rw [hc4]; decide) (by rw [hc4]; decide) (by rw [hc4]; first | done | rfl) (by decide) ?_
          refine xs_lload_n d182_80 rfl ?_
          refine xs_lconst (v := 0) d182_81 (by decide) ?_
          refine xs_lcmp d182_82 ?_
          rcases lk_if hf with ⟨hc5, hf⟩ | ⟨hc5, hf⟩
          · refine xs_if_ne (tgt := 90) d182_83 (by decide) (fun _ => ?_) (fun hn => absurd hc5 hn)
            refine xs_lconst (v := 0) d182_86 (by decide) ?_
            refine xs_goto (tgt := 93) d182_87 (by decide) ?_
            obtain eR := K0 _ (Option.some.inj hf).symm
            subst eR
            exact xs_lret d182_93 rt182
          · refine xs_if_ne (tgt := 90) d182_83 (by decide) (fun hp => absurd hp hc5) (fun _ => ?_)
            refine xs_lload_n d182_90 rfl ?_
            refine xs_lload_n d182_91 rfl ?_
            obtain ⟨hb6, hf⟩ := lk_g hf
            refine xs_ldiv d182_92 hb6 ?_
            obtain eR := K0 _ (Option.some.inj hf).symm
            subst eR
            exact xs_lret d182_93 rt182
        · skip
          rcases lk_if hf with ⟨hc7, hf⟩ | ⟨hc7, hf⟩
          · refine xs_tableIn (tgt := 108) d182_1 (by rw [hc7]; decide) (by rw [hc7]; decide) (by rw [hc7]; first | done | rfl) (by decide) ?_
            refine xs_lload_n d182_108 rfl ?_
            refine xs_lload_n d182_109 rfl ?_
            refine xs_lcmp d182_110 ?_
            rcases lk_if hf with ⟨hc8, hf⟩ | ⟨hc8, hf⟩
            · refine xs_if_ge (tgt := 118) d182_111 (by decide) (fun _ => ?_) (fun hn => absurd hc8 hn)
              refine xs_lconst (v := 0) d182_118 (by decide) ?_
              obtain eR := K0 _ (Option.some.inj hf).symm
              subst eR
              exact xs_lret d182_119 rt182
            · refine xs_if_ge (tgt := 118) d182_111 (by decide) (fun hp => absurd hp hc8) (fun _ => ?_)
              refine xs_lconst (v := 1) d182_114 (by decide) ?_
              refine xs_goto (tgt := 119) d182_115 (by decide) ?_
              obtain eR := K0 _ (Option.some.inj hf).symm
              subst eR
              exact xs_lret d182_119 rt182
          · skip
            rcases lk_if hf with ⟨hc9, hf⟩ | ⟨hc9, hf⟩
            · refine xs_tableIn (tgt := 120) d182_1 (by rw [hc9]; decide) (by rw [hc9]; decide) (by rw [hc9]; first | done | rfl) (by decide) ?_
              refine xs_lload_n d182_120 rfl ?_
              refine xs_lload_n d182_121 rfl ?_
              refine xs_lcmp d182_122 ?_
              rcases lk_if hf with ⟨hc10, hf⟩ | ⟨hc10, hf⟩
              · refine xs_if_gt (tgt := 130) d182_123 (by decide) (fun _ => ?_) (fun hn => absurd hc10 hn)
                refine xs_lconst (v := 0) d182_130 (by decide) ?_
                obtain eR := K0 _ (Option.some.inj hf).symm
                subst eR
                exact xs_lret d182_131 rt182
              · refine xs_if_gt (tgt := 130) d182_123 (by decide) (fun hp => absurd hp hc10) (fun _ => ?_)
                refine xs_lconst (v := 1) d182_126 (by decide) ?_
                refine xs_goto (tgt := 131) d182_127 (by decide) ?_
                obtain eR := K0 _ (Option.some.inj hf).symm
                subst eR
                exact xs_lret d182_131 rt182
            · skip
              rcases lk_if hf with ⟨hc11, hf⟩ | ⟨hc11, hf⟩
              · refine xs_tableIn (tgt := 132) d182_1 (by rw [hc11]; decide) (by rw [hc11]; decide) (by rw [hc11]; first | done | rfl) (by decide) ?_
                refine xs_lload_n d182_132 rfl ?_
                refine xs_lload_n d182_133 rfl ?_
                refine xs_lcmp d182_134 ?_
                rcases lk_if hf with ⟨hc12, hf⟩ | ⟨hc12, hf⟩
                · refine xs_if_ne (tgt := 142) d182_135 (by decide) (fun _ => ?_) (fun hn => absurd hc12 hn)
                  refine xs_lconst (v := 1) d182_138 (by decide) ?_
                  refine xs_goto (tgt := 143) d182_139 (by decide) ?_
                  obtain eR := K0 _ (Option.some.inj hf).symm
                  subst eR
                  exact xs_lret d182_143 rt182
                · refine xs_if_ne (tgt := 142) d182_135 (by decide) (fun hp => absurd hp hc12) (fun _ => ?_)
                  refine xs_lconst (v := 0) d182_142 (by decide) ?_
                  obtain eR := K0 _ (Option.some.inj hf).symm
                  subst eR
                  exact xs_lret d182_143 rt182
              · skip
                rcases lk_if hf with ⟨hc13, hf⟩ | ⟨hc13, hf⟩
                · refine xs_tableIn (tgt := 144) d182_1 (by rw [hc13]; decide) (by rw [hc13]; decide) (by rw [hc13]; first | done | rfl) (by decide) ?_
                  refine xs_lload_n d182_144 rfl ?_
                  refine xs_lload_n d182_145 rfl ?_
                  refine xs_lcmp d182_146 ?_
                  rcases lk_if hf with ⟨hc14, hf⟩ | ⟨hc14, hf⟩
                  · refine xs_if_lt (tgt := 154) d182_147 (by decide) (fun _ => ?_) (fun hn => absurd hc14 hn)
                    refine xs_lconst (v := 0) d182_154 (by decide) ?_
                    obtain eR := K0 _ (Option.some.inj hf).symm
                    subst eR
                    exact xs_lret d182_155 rt182
                  · refine xs_if_lt (tgt := 154) d182_147 (by decide) (fun hp => absurd hp hc14) (fun _ => ?_)
                    refine xs_lconst (v := 1) d182_150 (by decide) ?_
                    refine xs_goto (tgt := 155) d182_151 (by decide) ?_
                    obtain eR := K0 _ (Option.some.inj hf).symm
                    subst eR
                    exact xs_lret d182_155 rt182
                · skip
                  rcases lk_if hf with ⟨hc15, hf⟩ | ⟨hc15, hf⟩
                  · refine xs_tableIn (tgt := 156) d182_1 (by rw [hc15]; decide) (by rw [hc15]; decide) (by rw [hc15]; first | done | rfl) (by decide) ?_
                    refine xs_lload_n d182_156 rfl ?_
                    refine xs_lload_n d182_157 rfl ?_
                    refine xs_lcmp d182_158 ?_
                    rcases lk_if hf with ⟨hc16, hf⟩ | ⟨hc16, hf⟩
                    · refine xs_if_le (tgt := 166) d182_159 (by decide) (fun _ => ?_) (fun hn => absurd hc16 hn)
                      refine xs_lconst (v := 0) d182_166 (by decide) ?_
                      obtain eR := K0 _ (Option.some.inj hf).symm
                      subst eR
                      exact xs_lret d182_167 rt182
                    · refine xs_if_le (tgt := 166) d182_159 (by decide) (fun hp => absurd hp hc16) (fun _ => ?_)
                      refine xs_lconst (v := 1) d182_162 (by decide) ?_
                      refine xs_goto (tgt := 167) d182_163 (by decide) ?_
                      obtain eR := K0 _ (Option.some.inj hf).symm
                      subst eR
                      exact xs_lret d182_167 rt182
                  · skip
                    rcases lk_if hf with ⟨hc17, hf⟩ | ⟨hc17, hf⟩
                    · refine xs_tableIn (tgt := 172) d182_1 (by rw [hc17]; decide) (by rw [hc17]; decide) (by rw [hc17]; first | done | rfl) (by decide) ?_
                      refine xs_lload_n d182_172 rfl ?_
                      refine xs_lload_n d182_173 rfl ?_
                      refine xs_lor d182_174 ?_
                      obtain eR := K0 _ (Option.some.inj hf).symm
                      subst eR
                      exact xs_lret d182_175 rt182
                    · skip
                      rcases lk_if hf with ⟨hc18, hf⟩ | ⟨hc18, hf⟩
                      · refine xs_tableIn (tgt := 168) d182_1 (by rw [hc18]; decide) (by rw [hc18]; decide) (by rw [hc18]; first | done | rfl) (by decide) ?_
                        refine xs_lload_n d182_168 rfl ?_
                        refine xs_lload_n d182_169 rfl ?_
                        refine xs_land d182_170 ?_
                        obtain eR := K0 _ (Option.some.inj hf).symm
                        subst eR
                        exact xs_lret d182_171 rt182
                      · skip
                        rcases lk_if hf with ⟨hc19, hf⟩ | ⟨hc19, hf⟩
                        · refine xs_tableIn (tgt := 172) d182_1 (by rw [hc19]; decide) (by rw [hc19]; decide) (by rw [hc19]; first | done | rfl) (by decide) ?_
                          refine xs_lload_n d182_172 rfl ?_
                          refine xs_lload_n d182_173 rfl ?_
                          refine xs_lor d182_174 ?_
                          obtain eR := K0 _ (Option.some.inj hf).symm
                          subst eR
                          exact xs_lret d182_175 rt182
                        · skip
                          rcases lk_if hf with ⟨hc20, hf⟩ | ⟨hc20, hf⟩
                          · refine xs_tableIn (tgt := 94) d182_1 (by rw [hc20]; decide) (by rw [hc20]; decide) (by rw [hc20]; first | done | rfl) (by decide) ?_
                            refine xs_lload_n d182_94 rfl ?_
                            refine xs_lconst (v := 0) d182_95 (by decide) ?_
                            refine xs_lcmp d182_96 ?_
                            rcases lk_if hf with ⟨hc21, hf⟩ | ⟨hc21, hf⟩
                            · refine xs_if_ne (tgt := 104) d182_97 (by decide) (fun _ => ?_) (fun hn => absurd hc21 hn)
                              refine xs_lconst (v := 0) d182_100 (by decide) ?_
                              refine xs_goto (tgt := 107) d182_101 (by decide) ?_
                              obtain eR := K0 _ (Option.some.inj hf).symm
                              subst eR
                              exact xs_lret d182_107 rt182
                            · refine xs_if_ne (tgt := 104) d182_97 (by decide) (fun hp => absurd hp hc21) (fun _ => ?_)
                              refine xs_lload_n d182_104 rfl ?_
                              refine xs_lload_n d182_105 rfl ?_
                              obtain ⟨hb22, hf⟩ := lk_g hf
                              refine xs_lrem d182_106 hb22 ?_
                              obtain eR := K0 _ (Option.some.inj hf).symm
                              subst eR
                              exact xs_lret d182_107 rt182
                          · skip
                            refine xs_tableOut (tgt := 172) d182_1 (xsw_out (fun k q1 q2 => ?_)) (by decide) ?_
                            · rcases (show k = 2 ∨ k = 3 ∨ k = 4 ∨ k = 5 ∨ k = 6 ∨ k = 7 ∨ k = 8 ∨ k = 9 ∨ k = 10 ∨ k = 11 ∨ k = 12 ∨ k = 13 ∨ k = 14 by omega) with rfl | rfl | rfl | rfl | rfl | rfl | rfl | rfl | rfl | rfl | rfl | rfl | rfl
                              · exact fun e => hc1 (e.trans (by decide))
                              · exact fun e => hc2 (e.trans (by decide))
                              · exact fun e => hc3 (e.trans (by decide))
                              · exact fun e => hc4 (e.trans (by decide))
                              · exact fun e => hc7 (e.trans (by decide))
                              · exact fun e => hc9 (e.trans (by decide))
                              · exact fun e => hc11 (e.trans (by decide))
                              · exact fun e => hc13 (e.trans (by decide))
                              · exact fun e => hc15 (e.trans (by decide))
                              · exact fun e => hc17 (e.trans (by decide))
                              · exact fun e => hc18 (e.trans (by decide))
                              · exact fun e => hc19 (e.trans (by decide))
                              · exact fun e => hc20 (e.trans (by decide))
                            · skip
                              refine xs_lload_n d182_172 rfl ?_
                              refine xs_lload_n d182_173 rfl ?_
                              refine xs_lor d182_174 ?_
                              obtain eR := K0 _ (Option.some.inj hf).symm
                              subst eR
                              exact xs_lret d182_175 rt182
noncomputable def f_M_one (v0 : Int32) (v1 : Int64) (v3 : Int64) (h : xH) : Option Int64 := f_M_one_e v0 v1 v3 h
theorem f_M_one_ok {g : xG} {l : Launch} {d : Nat} {v0 : Int32} {v1 : Int64} {v3 : Int64} {h : xH} {r : Int64} (hD : 0 ≤ d) (hf : f_M_one v0 v1 v3 h = some r) : xC g l d 182 [xi v0, xl v1, xl v3] h (some (xl r)) h :=
  xC_of2 (by decide) mx182 (Nat.le_of_ble_eq_true rfl) (f_M_one_e_ok hD hf (fun _ e => by rw [e]))
theorem d183_0 : decode (xcode 183) 0 = .ok (.aload_n 0, 1) := by decide +kernel
theorem d183_1 : decode (xcode 183) 1 = .ok (.iconst 0, 1) := by decide +kernel
theorem d183_2 : decode (xcode 183) 2 = .ok (.putfield 275, 3) := by decide +kernel
theorem d183_5 : decode (xcode 183) 5 = .ok (.iload_n 2, 1) := by decide +kernel
theorem d183_6 : decode (xcode 183) 6 = .ok (.istore 4, 2) := by decide +kernel
theorem d183_8 : decode (xcode 183) 8 = .ok (.iload 4, 2) := by decide +kernel
theorem d183_10 : decode (xcode 183) 10 = .ok (.iload_n 3, 1) := by decide +kernel
theorem d183_11 : decode (xcode 183) 11 = .ok (.if_icmp .ge 124, 3) := by decide +kernel
theorem d183_14 : decode (xcode 183) 14 = .ok (.aload_n 0, 1) := by decide +kernel
theorem d183_15 : decode (xcode 183) 15 = .ok (.getfield 13, 3) := by decide +kernel
theorem d183_18 : decode (xcode 183) 18 = .ok (.sipush 400, 3) := by decide +kernel
theorem d183_21 : decode (xcode 183) 21 = .ok (.iload_n 1, 1) := by decide +kernel
theorem d183_22 : decode (xcode 183) 22 = .ok (.imul, 1) := by decide +kernel
theorem d183_23 : decode (xcode 183) 23 = .ok (.iload 4, 2) := by decide +kernel
theorem d183_25 : decode (xcode 183) 25 = .ok (.iadd, 1) := by decide +kernel
theorem d183_26 : decode (xcode 183) 26 = .ok (.iaload, 1) := by decide +kernel
theorem d183_27 : decode (xcode 183) 27 = .ok (.bipush 15, 2) := by decide +kernel
theorem d183_29 : decode (xcode 183) 29 = .ok (.iand, 1) := by decide +kernel
theorem d183_30 : decode (xcode 183) 30 = .ok (.istore 5, 2) := by decide +kernel
theorem d183_32 : decode (xcode 183) 32 = .ok (.aload_n 0, 1) := by decide +kernel
theorem d183_33 : decode (xcode 183) 33 = .ok (.getfield 13, 3) := by decide +kernel
theorem d183_36 : decode (xcode 183) 36 = .ok (.sipush 400, 3) := by decide +kernel
theorem d183_39 : decode (xcode 183) 39 = .ok (.iload_n 1, 1) := by decide +kernel
theorem d183_40 : decode (xcode 183) 40 = .ok (.imul, 1) := by decide +kernel
theorem d183_41 : decode (xcode 183) 41 = .ok (.iload 4, 2) := by decide +kernel
theorem d183_43 : decode (xcode 183) 43 = .ok (.iadd, 1) := by decide +kernel
theorem d183_44 : decode (xcode 183) 44 = .ok (.iaload, 1) := by decide +kernel
theorem d183_45 : decode (xcode 183) 45 = .ok (.iconst 4, 1) := by decide +kernel
theorem d183_46 : decode (xcode 183) 46 = .ok (.ishr, 1) := by decide +kernel
theorem d183_47 : decode (xcode 183) 47 = .ok (.istore 6, 2) := by decide +kernel
theorem d183_49 : decode (xcode 183) 49 = .ok (.iload 5, 2) := by decide +kernel
theorem d183_51 : decode (xcode 183) 51 = .ok (.ifCond .ne 13, 3) := by decide +kernel
theorem d183_54 : decode (xcode 183) 54 = .ok (.aload_n 0, 1) := by decide +kernel
theorem d183_55 : decode (xcode 183) 55 = .ok (.iload 6, 2) := by decide +kernel
theorem d183_57 : decode (xcode 183) 57 = .ok (.i2l, 1) := by decide +kernel
theorem d183_58 : decode (xcode 183) 58 = .ok (.invokevirtual 278, 3) := by decide +kernel
theorem d183_61 : decode (xcode 183) 61 = .ok (.goto 68, 3) := by decide +kernel
theorem d183_64 : decode (xcode 183) 64 = .ok (.iload 5, 2) := by decide +kernel
theorem d183_66 : decode (xcode 183) 66 = .ok (.iconst 1, 1) := by decide +kernel
theorem d183_67 : decode (xcode 183) 67 = .ok (.if_icmp .ne 17, 3) := by decide +kernel
theorem d183_70 : decode (xcode 183) 70 = .ok (.aload_n 0, 1) := by decide +kernel
theorem d183_71 : decode (xcode 183) 71 = .ok (.aload_n 0, 1) := by decide +kernel
theorem d183_72 : decode (xcode 183) 72 = .ok (.getfield 36, 3) := by decide +kernel
theorem d183_75 : decode (xcode 183) 75 = .ok (.iload 6, 2) := by decide +kernel
theorem d183_77 : decode (xcode 183) 77 = .ok (.laload, 1) := by decide +kernel
theorem d183_78 : decode (xcode 183) 78 = .ok (.invokevirtual 278, 3) := by decide +kernel
theorem d183_81 : decode (xcode 183) 81 = .ok (.goto 48, 3) := by decide +kernel
theorem d183_84 : decode (xcode 183) 84 = .ok (.iload 5, 2) := by decide +kernel
theorem d183_86 : decode (xcode 183) 86 = .ok (.bipush 11, 2) := by decide +kernel
theorem d183_88 : decode (xcode 183) 88 = .ok (.if_icmp .ne 16, 3) := by decide +kernel
theorem d183_91 : decode (xcode 183) 91 = .ok (.aload_n 0, 1) := by decide +kernel
theorem d183_92 : decode (xcode 183) 92 = .ok (.lconst 1, 1) := by decide +kernel
theorem d183_93 : decode (xcode 183) 93 = .ok (.aload_n 0, 1) := by decide +kernel
theorem d183_94 : decode (xcode 183) 94 = .ok (.invokevirtual 282, 3) := by decide +kernel
theorem d183_97 : decode (xcode 183) 97 = .ok (.lsub, 1) := by decide +kernel
theorem d183_98 : decode (xcode 183) 98 = .ok (.invokevirtual 278, 3) := by decide +kernel
theorem d183_101 : decode (xcode 183) 101 = .ok (.goto 28, 3) := by decide +kernel
theorem d183_104 : decode (xcode 183) 104 = .ok (.aload_n 0, 1) := by decide +kernel
theorem d183_105 : decode (xcode 183) 105 = .ok (.invokevirtual 282, 3) := by decide +kernel
theorem d183_108 : decode (xcode 183) 108 = .ok (.lstore 7, 2) := by decide +kernel
theorem d183_110 : decode (xcode 183) 110 = .ok (.aload_n 0, 1) := by decide +kernel
theorem d183_111 : decode (xcode 183) 111 = .ok (.invokevirtual 282, 3) := by decide +kernel
theorem d183_114 : decode (xcode 183) 114 = .ok (.lstore 9, 2) := by decide +kernel
theorem d183_116 : decode (xcode 183) 116 = .ok (.aload_n 0, 1) := by decide +kernel
theorem d183_117 : decode (xcode 183) 117 = .ok (.iload 5, 2) := by decide +kernel
theorem d183_119 : decode (xcode 183) 119 = .ok (.lload 9, 2) := by decide +kernel
theorem d183_121 : decode (xcode 183) 121 = .ok (.lload 7, 2) := by decide +kernel
theorem d183_123 : decode (xcode 183) 123 = .ok (.invokestatic 286, 3) := by decide +kernel
theorem d183_126 : decode (xcode 183) 126 = .ok (.invokevirtual 278, 3) := by decide +kernel
theorem d183_129 : decode (xcode 183) 129 = .ok (.iinc 4 1, 3) := by decide +kernel
theorem d183_132 : decode (xcode 183) 132 = .ok (.goto (-124), 3) := by decide +kernel
theorem d183_135 : decode (xcode 183) 135 = .ok (.aload_n 0, 1) := by decide +kernel
theorem d183_136 : decode (xcode 183) 136 = .ok (.invokevirtual 282, 3) := by decide +kernel
theorem d183_139 : decode (xcode 183) 139 = .ok (.lreturn, 1) := by decide +kernel
noncomputable def f_M_reckons_b135 (h : xH) : Option (Int64 × xH) :=
  (f_M_pop h).bind fun q5 =>
  some ((q5.1, q5.2))
set_option maxHeartbeats 4000000 in
set_option maxRecDepth 100000 in
theorem f_M_reckons_b135_ok {g : xG} {l : Launch} {d : Nat} {h : xH} {o : (Int64 × xH)} {R : Option xV} {H' : xH} (hD : 1 ≤ d) (hf : f_M_reckons_b135 h = some o) (K0 : ∀ (a : Int64) (h1 : xH), o = (a, h1) → R = some (xl a) ∧ H' = h1) : xEv g l d 183 135 [(0, xr 12 (some 0))] [] h R H' := by
  unfold f_M_reckons_b135 at hf
  refine xs_aload_n d183_135 rfl ?_
  obtain ⟨q5, hc4, hf⟩ := lk_b hf
  refine xe_callv1 (as := []) (st := []) (h2 := q5.2) (d2 := d - 1) d183_136 ky183 ml243 st181 (by decide) cn181 rfl na181 (Nat.le_of_ble_eq_true rfl) (by omega) (f_M_pop_ok (by omega) hc4) ?_
  obtain ⟨eR, eH⟩ := K0 _ _ (Option.some.inj hf).symm
  subst eR; subst eH
  exact xs_lret d183_139 rt183
noncomputable def f_M_reckons_b129 (v1 : Int32) (v3 : Int32) (v4 : Int32) (h : xH) : Option ((Int32 × xH) ⊕ (Int64 × xH)) :=
  xlet (v4 + (1 : Int32)) fun v4_14 =>
  some (Sum.inl (v4_14, h))
set_option maxHeartbeats 4000000 in
set_option maxRecDepth 100000 in
theorem f_M_reckons_b129_ok {g : xG} {l : Launch} {d : Nat} {v1 : Int32} {v3 : Int32} {v4 : Int32} {h : xH} {o : ((Int32 × xH) ⊕ (Int64 × xH))} {R : Option xV} {H' : xH} (hD : 1 ≤ d) (hf : f_M_reckons_b129 v1 v3 v4 h = some o) (K1 : ∀ (w4 : Int32) (h1 : xH), o = Sum.inl (w4, h1) → xEv g l d 183 8 [(0, xr 12 (some 0)), (1, xi v1), (3, xi v3), (4, xi w4)] [] h1 R H') (K0 : ∀ (a : Int64) (h1 : xH), o = Sum.inr ((a, h1)) → R = some (xl a) ∧ H' = h1) : xEv g l d 183 129 [(0, xr 12 (some 0)), (1, xi v1), (3, xi v3), (4, xi v4)] [] h R H' := by
  unfold f_M_reckons_b129 at hf
  obtain ⟨v4_14, ev4_14, hf⟩ := lk_let hf
  refine xe_iinc (v := v4_14) (b := 1) (ls2 := [(0, xr 12 (some 0)), (1, xi v1), (3, xi v3), (4, xi v4_14)]) d183_129 mx183 (by decide) rfl (by decide) ev4_14 rfl ?_
  refine xs_goto (tgt := 8) d183_132 (by decide) ?_
  exact K1 _ _ (Option.some.inj hf).symm
noncomputable def f_M_reckons_s8 (v1 : Int32) (v3 : Int32) (v4 : Int32) (h : xH) : Option ((Int32 × xH) ⊕ (Int64 × xH)) :=
  if v3 ≤ v4 then (
  xup (f_M_reckons_b135 h)) else (
  if xib (((400 : Int32) * v1) + v4) 2400 then (
  xlet ((h.2.2.2.1 48 0 (((400 : Int32) * v1) + v4).toNatClampNeg) &&& (15 : Int32)) fun v5_7 =>
  if xib (((400 : Int32) * v1) + v4) 2400 then (
  xlet ((h.2.2.2.1 48 0 (((400 : Int32) * v1) + v4).toNatClampNeg) >>> ((4 : Int32) &&& 31)) fun v6_9 =>
  if v5_7 = (0 : Int32) then (
  (f_M_push ((v6_9).toInt64) h).bind fun h13 =>
  f_M_reckons_b129 v1 v3 v4 h13) else (
  if v5_7 = (1 : Int32) then (
  if xib v6_9 12 then (
  (f_M_push (h.2.2.2.2 55 0 (v6_9).toNatClampNeg) h).bind fun h19 =>
  f_M_reckons_b129 v1 v3 v4 h19) else none) else (
  if v5_7 = (11 : Int32) then (
  (f_M_pop h).bind fun q23 =>
  (f_M_push ((1 : Int64) - q23.1) q23.2).bind fun h26 =>
  f_M_reckons_b129 v1 v3 v4 h26) else (
  (f_M_pop h).bind fun q29 =>
  (f_M_pop q29.2).bind fun q32 =>
  (f_M_one v5_7 q32.1 q29.1 q32.2).bind fun r33 =>
  (f_M_push r33 q32.2).bind fun h37 =>
  f_M_reckons_b129 v1 v3 v4 h37)))) else none) else none)
set_option maxHeartbeats 4000000 in
set_option maxRecDepth 100000 in
theorem f_M_reckons_s8_ok {g : xG} {l : Launch} {d : Nat} {v1 : Int32} {v3 : Int32} {v4 : Int32} {h : xH} {o : ((Int32 × xH) ⊕ (Int64 × xH))} {R : Option xV} {H' : xH} (hD : 1 ≤ d) (hf : f_M_reckons_s8 v1 v3 v4 h = some o) (K1 : ∀ (w4 : Int32) (h1 : xH), o = Sum.inl (w4, h1) → xEv g l d 183 8 [(0, xr 12 (some 0)), (1, xi v1), (3, xi v3), (4, xi w4)] [] h1 R H') (K0 : ∀ (a : Int64) (h1 : xH), o = Sum.inr ((a, h1)) → R = some (xl a) ∧ H' = h1) : xEv g l d 183 8 [(0, xr 12 (some 0)), (1, xi v1), (3, xi v3), (4, xi v4)] [] h R H' := by
  unfold f_M_reckons_s8 at hf
  refine xs_iload d183_8 rfl ?_
  refine xs_iload_n d183_10 rfl ?_
  rcases lk_if hf with ⟨hc2, hf⟩ | ⟨hc2, hf⟩
  · refine xs_icmp_ge (tgt := 135) d183_11 (by decide) (fun _ => ?_) (fun hn => absurd hc2 hn)
    refine xs_pick [0] rfl ?_
    obtain ⟨x0, hf, ex0⟩ := lk_up hf
    exact f_M_reckons_b135_ok hD hf (fun u0 u1 e => K0 u0 u1 (ex0.trans (congrArg Sum.inr e)))
  · refine xs_icmp_ge (tgt := 135) d183_11 (by decide) (fun hp => absurd hp hc2) (fun _ => ?_)
    refine xs_aload_n d183_14 rfl ?_
    refine xe_getc (j := 0) d183_15 ky183 fl164 fk12_3 rfl ?_
    refine xs_sipush (v := 400) d183_18 (by decide) ?_
    refine xs_iload_n d183_21 rfl ?_
    refine xs_imul d183_22 ?_
    refine xs_iload d183_23 rfl ?_
    refine xs_iadd d183_25 ?_
    obtain ⟨hin6, hf⟩ := lk_g hf
    refine xe_iald d183_26 (by decide) ak48 hin6 ?_
    refine xs_bipush (v := 15) d183_27 (by decide) ?_
    refine xs_iand d183_29 ?_
    obtain ⟨v5_7, ev5_7, hf⟩ := lk_let hf
    refine xe_istore (v := v5_7) (ls2 := [(0, xr 12 (some 0)), (1, xi v1), (3, xi v3), (4, xi v4), (5, xi v5_7)]) d183_30 mx183 (by decide) ev5_7 rfl ?_
    refine xs_aload_n d183_32 rfl ?_
    refine xe_getc (j := 0) d183_33 ky183 fl164 fk12_3 rfl ?_
    refine xs_sipush (v := 400) d183_36 (by decide) ?_
    refine xs_iload_n d183_39 rfl ?_
    refine xs_imul d183_40 ?_
    refine xs_iload d183_41 rfl ?_
    refine xs_iadd d183_43 ?_
    obtain ⟨hin8, hf⟩ := lk_g hf
    refine xe_iald d183_44 (by decide) ak48 hin8 ?_
    refine xs_iconst (v := 4) d183_45 (by decide) ?_
    refine xs_ishr d183_46 ?_
    obtain ⟨v6_9, ev6_9, hf⟩ := lk_let hf
    refine xe_istore (v := v6_9) (ls2 := [(0, xr 12 (some 0)), (1, xi v1), (3, xi v3), (4, xi v4), (5, xi v5_7), (6, xi v6_9)]) d183_47 mx183 (by decide) ev6_9 rfl ?_
    refine xs_iload d183_49 rfl ?_
    rcases lk_if hf with ⟨hc10, hf⟩ | ⟨hc10, hf⟩
    · refine xs_if_ne (tgt := 64) d183_51 (by decide) (fun _ => ?_) (fun hn => absurd hc10 hn)
      refine xs_aload_n d183_54 rfl ?_
      refine xs_iload d183_55 rfl ?_
      refine xs_i2l d183_57 ?_
      obtain ⟨h13, hc12, hf⟩ := lk_b hf
      refine xe_callv0 (as := [xl ((v6_9).toInt64)]) (st := []) (h2 := h13) (d2 := d - 1) d183_58 ky183 ml242 st180 (by decide) cn180 rfl na180 (Nat.le_of_ble_eq_true rfl) (by omega) (f_M_push_ok (by omega) hc12) ?_
      refine xs_goto (tgt := 129) d183_61 (by decide) ?_
      refine xs_pick [0, 1, 2, 3] rfl ?_
      exact f_M_reckons_b129_ok hD hf K1 K0
    · refine xs_if_ne (tgt := 64) d183_51 (by decide) (fun hp => absurd hp hc10) (fun _ => ?_)
      refine xs_iload d183_64 rfl ?_
      refine xs_iconst (v := 1) d183_66 (by decide) ?_
      rcases lk_if hf with ⟨hc15, hf⟩ | ⟨hc15, hf⟩
      · refine xs_icmp_ne (tgt := 84) d183_67 (by decide) (fun _ => ?_) (fun hn => absurd hc15 hn)
        refine xs_aload_n d183_70 rfl ?_
        refine xs_aload_n d183_71 rfl ?_
        refine xe_getc (j := 0) d183_72 ky183 fl180 fk12_19 rfl ?_
        refine xs_iload d183_75 rfl ?_
        obtain ⟨hin16, hf⟩ := lk_g hf
        refine xe_lald d183_77 (by decide) ak55 hin16 ?_
        obtain ⟨h19, hc18, hf⟩ := lk_b hf
        refine xe_callv0 (as := [xl (h.2.2.2.2 55 0 (v6_9).toNatClampNeg)]) (st := []) (h2 := h19) (d2 := d - 1) d183_78 ky183 ml242 st180 (by decide) cn180 rfl na180 (Nat.le_of_ble_eq_true rfl) (by omega) (f_M_push_ok (by omega) hc18) ?_
        refine xs_goto (tgt := 129) d183_81 (by decide) ?_
        refine xs_pick [0, 1, 2, 3] rfl ?_
        exact f_M_reckons_b129_ok hD hf K1 K0
      · refine xs_icmp_ne (tgt := 84) d183_67 (by decide) (fun hp => absurd hp hc15) (fun _ => ?_)
        refine xs_iload d183_84 rfl ?_
        refine xs_bipush (v := 11) d183_86 (by decide) ?_
        rcases lk_if hf with ⟨hc20, hf⟩ | ⟨hc20, hf⟩
        · refine xs_icmp_ne (tgt := 104) d183_88 (by decide) (fun _ => ?_) (fun hn => absurd hc20 hn)
          refine xs_aload_n d183_91 rfl ?_
          refine xs_lconst (v := 1) d183_92 (by decide) ?_
          refine xs_aload_n d183_93 rfl ?_
          obtain ⟨q23, hc22, hf⟩ := lk_b hf
          refine xe_callv1 (as := []) (st := [xl (1 : Int64), xr 12 (some 0)]) (h2 := q23.2) (d2 := d - 1) d183_94 ky183 ml243 st181 (by decide) cn181 rfl na181 (Nat.le_of_ble_eq_true rfl) (by omega) (f_M_pop_ok (by omega) hc22) ?_
          refine xs_lsub d183_97 ?_
          obtain ⟨h26, hc25, hf⟩ := lk_b hf
          refine xe_callv0 (as := [xl ((1 : Int64) - q23.1)]) (st := []) (h2 := h26) (d2 := d - 1) d183_98 ky183 ml242 st180 (by decide) cn180 rfl na180 (Nat.le_of_ble_eq_true rfl) (by omega) (f_M_push_ok (by omega) hc25) ?_
          refine xs_goto (tgt := 129) d183_101 (by decide) ?_
          refine xs_pick [0, 1, 2, 3] rfl ?_
          exact f_M_reckons_b129_ok hD hf K1 K0
        · refine xs_icmp_ne (tgt := 104) d183_88 (by decide) (fun hp => absurd hp hc20) (fun _ => ?_)
          refine xs_aload_n d183_104 rfl ?_
          obtain ⟨q29, hc28, hf⟩ := lk_b hf
          refine xe_callv1 (as := []) (st := []) (h2 := q29.2) (d2 := d - 1) d183_105 ky183 ml243 st181 (by decide) cn181 rfl na181 (Nat.le_of_ble_eq_true rfl) (by omega) (f_M_pop_ok (by omega) hc28) ?_
          refine xe_lstore (v := q29.1) (ls2 := [(0, xr 12 (some 0)), (1, xi v1), (3, xi v3), (4, xi v4), (5, xi v5_7), (6, xi v6_9), (7, xl q29.1)]) d183_108 mx183 (by decide) rfl rfl ?_
          refine xs_aload_n d183_110 rfl ?_
          obtain ⟨q32, hc31, hf⟩ := lk_b hf
          refine xe_callv1 (as := []) (st := []) (h2 := q32.2) (d2 := d - 1) d183_111 ky183 ml243 st181 (by decide) cn181 rfl na181 (Nat.le_of_ble_eq_true rfl) (by omega) (f_M_pop_ok (by omega) hc31) ?_
          refine xe_lstore (v := q32.1) (ls2 := [(0, xr 12 (some 0)), (1, xi v1), (3, xi v3), (4, xi v4), (5, xi v5_7), (6, xi v6_9), (7, xl q29.1), (9, xl q32.1)]) d183_114 mx183 (by decide) rfl rfl ?_
          refine xs_aload_n d183_116 rfl ?_
          refine xs_iload d183_117 rfl ?_
          refine xs_lload d183_119 rfl ?_
          refine xs_lload d183_121 rfl ?_
          obtain ⟨r33, hc34, hf⟩ := lk_b hf
          refine xe_calls1 (as := [xi v5_7, xl q32.1, xl q29.1]) (st := [xr 12 (some 0)]) (h2 := q32.2) (d2 := d - 1) d183_123 ky183 ml244 st182 rfl na182 (Nat.le_of_ble_eq_true rfl) (by omega) (f_M_one_ok (by omega) hc34) ?_
          obtain ⟨h37, hc36, hf⟩ := lk_b hf
          refine xe_callv0 (as := [xl r33]) (st := []) (h2 := h37) (d2 := d - 1) d183_126 ky183 ml242 st180 (by decide) cn180 rfl na180 (Nat.le_of_ble_eq_true rfl) (by omega) (f_M_push_ok (by omega) hc36) ?_
          refine xs_pick [0, 1, 2, 3] rfl ?_
          exact f_M_reckons_b129_ok hD hf K1 K0
noncomputable def f_M_reckons_l8 (v1 : Int32) (v3 : Int32) (v4 : Int32) (h : xH) : Option (Int64 × xH) :=
  whl (fun s => f_M_reckons_s8 v1 v3 s.1 s.2) (v4, h)
theorem f_M_reckons_l8_ok {g : xG} {l : Launch} {d : Nat} {v1 : Int32} {v3 : Int32} {v4 : Int32} {h : xH} {o : (Int64 × xH)} {R : Option xV} {H' : xH} (hD : 1 ≤ d) (hf : f_M_reckons_l8 v1 v3 v4 h = some o) (K0 : ∀ (a : Int64) (h1 : xH), o = (a, h1) → R = some (xl a) ∧ H' = h1) : xEv g l d 183 8 [(0, xr 12 (some 0)), (1, xi v1), (3, xi v3), (4, xi v4)] [] h R H' := by
  obtain ⟨n, hn⟩ := whl_iff.mp hf
  clear hf
  induction n generalizing v4 h with
  | zero => cases hn
  | succ n ih =>
    obtain ⟨o2, hs, hn⟩ := lk_b (show (f_M_reckons_s8 v1 v3 v4 h).bind (fun o => Sum.elim (itn _ n) some o) = some o from hn)
    exact f_M_reckons_s8_ok hD hs (fun u0 u1 e => ih (by rw [e] at hn; exact hn)) (fun u0 u1 e => K0 u0 u1 (by rw [e] at hn; exact (Option.some.inj hn).symm))
noncomputable def f_M_reckons_e (v1 : Int32) (v2 : Int32) (v3 : Int32) (h : xH) : Option (Int64 × xH) :=
  xlet (xsI h 12 18 0 (0 : Int32)) fun h1 =>
  f_M_reckons_l8 v1 v3 v2 h1
set_option maxHeartbeats 4000000 in
set_option maxRecDepth 100000 in
theorem f_M_reckons_e_ok {g : xG} {l : Launch} {d : Nat} {v1 : Int32} {v2 : Int32} {v3 : Int32} {h : xH} {o : (Int64 × xH)} {R : Option xV} {H' : xH} (hD : 1 ≤ d) (hf : f_M_reckons_e v1 v2 v3 h = some o) (K0 : ∀ (a : Int64) (h1 : xH), o = (a, h1) → R = some (xl a) ∧ H' = h1) : xEv g l d 183 0 [(0, xr 12 (some 0)), (1, xi v1), (2, xi v2), (3, xi v3)] [] h R H' := by
  unfold f_M_reckons_e at hf
  refine xs_aload_n d183_0 rfl ?_
  refine xs_iconst (v := 0) d183_1 (by decide) ?_
  obtain ⟨h1, eh1, hf⟩ := lk_let hf
  refine xe_puti d183_2 ky183 fl179 fk12_18 ft12_18 eh1 ?_
  refine xs_iload_n d183_5 rfl ?_
  refine xe_istore (v := v2) (ls2 := [(0, xr 12 (some 0)), (1, xi v1), (2, xi v2), (3, xi v3), (4, xi v2)]) d183_6 mx183 (by decide) rfl rfl ?_
  refine xs_pick [0, 1, 3, 4] rfl ?_
  exact f_M_reckons_l8_ok hD hf K0
noncomputable def f_M_reckons (v1 : Int32) (v2 : Int32) (v3 : Int32) (h : xH) : Option (Int64 × xH) := f_M_reckons_e v1 v2 v3 h
theorem f_M_reckons_ok {g : xG} {l : Launch} {d : Nat} {v1 : Int32} {v2 : Int32} {v3 : Int32} {h : xH} {r : Int64} {h1 : xH} (hD : 1 ≤ d) (hf : f_M_reckons v1 v2 v3 h = some (r, h1)) : xC g l d 183 [xr 12 (some 0), xi v1, xi v2, xi v3] h (some (xl r)) h1 :=
  xC_of2 (by decide) mx183 (Nat.le_of_ble_eq_true rfl) (f_M_reckons_e_ok hD hf (fun _ _ e => by cases e; exact ⟨rfl, rfl⟩))
theorem d184_0 : decode (xcode 184) 0 = .ok (.aload_n 0, 1) := by decide +kernel
theorem d184_1 : decode (xcode 184) 1 = .ok (.getfield 39, 3) := by decide +kernel
theorem d184_4 : decode (xcode 184) 4 = .ok (.iconst 0, 1) := by decide +kernel
theorem d184_5 : decode (xcode 184) 5 = .ok (.iaload, 1) := by decide +kernel
theorem d184_6 : decode (xcode 184) 6 = .ok (.iconst 1, 1) := by decide +kernel
theorem d184_7 : decode (xcode 184) 7 = .ok (.if_icmp .ne 7, 3) := by decide +kernel
theorem d184_10 : decode (xcode 184) 10 = .ok (.iconst 1, 1) := by decide +kernel
theorem d184_11 : decode (xcode 184) 11 = .ok (.goto 4, 3) := by decide +kernel
theorem d184_14 : decode (xcode 184) 14 = .ok (.iconst 0, 1) := by decide +kernel
theorem d184_15 : decode (xcode 184) 15 = .ok (.ireturn, 1) := by decide +kernel
noncomputable def f_M_isTrug_e (h : xH) : Option Int32 :=
  if (h.2.2.2.1 56 0 ((0 : Int32)).toNatClampNeg) = (1 : Int32) then (
  some ((1 : Int32))) else (
  some ((0 : Int32)))
set_option maxHeartbeats 4000000 in
set_option maxRecDepth 100000 in
theorem f_M_isTrug_e_ok {g : xG} {l : Launch} {d : Nat} {h : xH} {o : Int32} {R : Option xV} (hD : 0 ≤ d) (hf : f_M_isTrug_e h = some o) (K0 : ∀ (a : Int32), o = a → R = some (xi a)) : xEv g l d 184 0 [(0, xr 12 (some 0))] [] h R h := by
  unfold f_M_isTrug_e at hf
  refine xs_aload_n d184_0 rfl ?_
  refine xe_getc (j := 0) d184_1 ky184 fl181 fk12_20 rfl ?_
  refine xs_iconst (v := 0) d184_4 (by decide) ?_
  refine xe_iald d184_5 (by decide) ak56 (show xib (0 : Int32) 101 by decide) ?_
  refine xs_iconst (v := 1) d184_6 (by decide) ?_
  rcases lk_if hf with ⟨hc1, hf⟩ | ⟨hc1, hf⟩
  · refine xs_icmp_ne (tgt := 14) d184_7 (by decide) (fun _ => ?_) (fun hn => absurd hc1 hn)
    refine xs_iconst (v := 1) d184_10 (by decide) ?_
    refine xs_goto (tgt := 15) d184_11 (by decide) ?_
    obtain eR := K0 _ (Option.some.inj hf).symm
    subst eR
    exact xe_zret d184_15 (Or.inr rfl) rt184
  · refine xs_icmp_ne (tgt := 14) d184_7 (by decide) (fun hp => absurd hp hc1) (fun _ => ?_)
    refine xs_iconst (v := 0) d184_14 (by decide) ?_
    obtain eR := K0 _ (Option.some.inj hf).symm
    subst eR
    exact xe_zret d184_15 (Or.inl rfl) rt184
noncomputable def f_M_isTrug (h : xH) : Option Int32 := f_M_isTrug_e h
theorem f_M_isTrug_ok {g : xG} {l : Launch} {d : Nat} {h : xH} {r : Int32} (hD : 0 ≤ d) (hf : f_M_isTrug h = some r) : xC g l d 184 [xr 12 (some 0)] h (some (xi r)) h :=
  xC_of2 (by decide) mx184 (Nat.le_of_ble_eq_true rfl) (f_M_isTrug_e_ok hD hf (fun _ e => by rw [e]))
theorem d185_0 : decode (xcode 185) 0 = .ok (.iload_n 1, 1) := by decide +kernel
theorem d185_1 : decode (xcode 185) 1 = .ok (.ifCond .lt 17, 3) := by decide +kernel
theorem d185_4 : decode (xcode 185) 4 = .ok (.iload_n 1, 1) := by decide +kernel
theorem d185_5 : decode (xcode 185) 5 = .ok (.aload_n 0, 1) := by decide +kernel
theorem d185_6 : decode (xcode 185) 6 = .ok (.getfield 39, 3) := by decide +kernel
theorem d185_9 : decode (xcode 185) 9 = .ok (.iconst 3, 1) := by decide +kernel
theorem d185_10 : decode (xcode 185) 10 = .ok (.iaload, 1) := by decide +kernel
theorem d185_11 : decode (xcode 185) 11 = .ok (.if_icmp .ge 7, 3) := by decide +kernel
theorem d185_14 : decode (xcode 185) 14 = .ok (.iconst 1, 1) := by decide +kernel
theorem d185_15 : decode (xcode 185) 15 = .ok (.goto 4, 3) := by decide +kernel
theorem d185_18 : decode (xcode 185) 18 = .ok (.iconst 0, 1) := by decide +kernel
theorem d185_19 : decode (xcode 185) 19 = .ok (.ireturn, 1) := by decide +kernel
noncomputable def f_M_isSorrow_e (v1 : Int32) (h : xH) : Option Int32 :=
  if v1 < (0 : Int32) then (
  some ((0 : Int32))) else (
  if (h.2.2.2.1 56 0 ((3 : Int32)).toNatClampNeg) ≤ v1 then (
  some ((0 : Int32))) else (
  some ((1 : Int32))))
set_option maxHeartbeats 4000000 in
set_option maxRecDepth 100000 in
theorem f_M_isSorrow_e_ok {g : xG} {l : Launch} {d : Nat} {v1 : Int32} {h : xH} {o : Int32} {R : Option xV} (hD : 0 ≤ d) (hf : f_M_isSorrow_e v1 h = some o) (K0 : ∀ (a : Int32), o = a → R = some (xi a)) : xEv g l d 185 0 [(0, xr 12 (some 0)), (1, xi v1)] [] h R h := by
  unfold f_M_isSorrow_e at hf
  refine xs_iload_n d185_0 rfl ?_
  rcases lk_if hf with ⟨hc1, hf⟩ | ⟨hc1, hf⟩
  · refine xs_if_lt (tgt := 18) d185_1 (by decide) (fun _ => ?_) (fun hn => absurd hc1 hn)
    refine xs_iconst (v := 0) d185_18 (by decide) ?_
    obtain eR := K0 _ (Option.some.inj hf).symm
    subst eR
    exact xe_zret d185_19 (Or.inl rfl) rt185
  · refine xs_if_lt (tgt := 18) d185_1 (by decide) (fun hp => absurd hp hc1) (fun _ => ?_)
    refine xs_iload_n d185_4 rfl ?_
    refine xs_aload_n d185_5 rfl ?_
    refine xe_getc (j := 0) d185_6 ky185 fl181 fk12_20 rfl ?_
    refine xs_iconst (v := 3) d185_9 (by decide) ?_
    refine xe_iald d185_10 (by decide) ak56 (show xib (3 : Int32) 101 by decide) ?_
    rcases lk_if hf with ⟨hc2, hf⟩ | ⟨hc2, hf⟩
    · refine xs_icmp_ge (tgt := 18) d185_11 (by decide) (fun _ => ?_) (fun hn => absurd hc2 hn)
      refine xs_iconst (v := 0) d185_18 (by decide) ?_
      obtain eR := K0 _ (Option.some.inj hf).symm
      subst eR
      exact xe_zret d185_19 (Or.inl rfl) rt185
    · refine xs_icmp_ge (tgt := 18) d185_11 (by decide) (fun hp => absurd hp hc2) (fun _ => ?_)
      refine xs_iconst (v := 1) d185_14 (by decide) ?_
      refine xs_goto (tgt := 19) d185_15 (by decide) ?_
      obtain eR := K0 _ (Option.some.inj hf).symm
      subst eR
      exact xe_zret d185_19 (Or.inr rfl) rt185
noncomputable def f_M_isSorrow (v1 : Int32) (h : xH) : Option Int32 := f_M_isSorrow_e v1 h
theorem f_M_isSorrow_ok {g : xG} {l : Launch} {d : Nat} {v1 : Int32} {h : xH} {r : Int32} (hD : 0 ≤ d) (hf : f_M_isSorrow v1 h = some r) : xC g l d 185 [xr 12 (some 0), xi v1] h (some (xi r)) h :=
  xC_of2 (by decide) mx185 (Nat.le_of_ble_eq_true rfl) (f_M_isSorrow_e_ok hD hf (fun _ e => by rw [e]))
theorem d186_0 : decode (xcode 186) 0 = .ok (.aload_n 0, 1) := by decide +kernel
theorem d186_1 : decode (xcode 186) 1 = .ok (.iload_n 1, 1) := by decide +kernel
theorem d186_2 : decode (xcode 186) 2 = .ok (.invokevirtual 290, 3) := by decide +kernel
theorem d186_5 : decode (xcode 186) 5 = .ok (.ifCond .eq 19, 3) := by decide +kernel
theorem d186_8 : decode (xcode 186) 8 = .ok (.aload_n 0, 1) := by decide +kernel
theorem d186_9 : decode (xcode 186) 9 = .ok (.getfield 39, 3) := by decide +kernel
theorem d186_12 : decode (xcode 186) 12 = .ok (.bipush 12, 2) := by decide +kernel
theorem d186_14 : decode (xcode 186) 14 = .ok (.iload_n 1, 1) := by decide +kernel
theorem d186_15 : decode (xcode 186) 15 = .ok (.iadd, 1) := by decide +kernel
theorem d186_16 : decode (xcode 186) 16 = .ok (.iaload, 1) := by decide +kernel
theorem d186_17 : decode (xcode 186) 17 = .ok (.ifCond .ne 7, 3) := by decide +kernel
theorem d186_20 : decode (xcode 186) 20 = .ok (.iconst 1, 1) := by decide +kernel
theorem d186_21 : decode (xcode 186) 21 = .ok (.goto 4, 3) := by decide +kernel
theorem d186_24 : decode (xcode 186) 24 = .ok (.iconst 0, 1) := by decide +kernel
theorem d186_25 : decode (xcode 186) 25 = .ok (.ireturn, 1) := by decide +kernel
noncomputable def f_M_isInside_i_e (v1 : Int32) (h : xH) : Option Int32 :=
  (f_M_isSorrow v1 h).bind fun r1 =>
  if r1 = (0 : Int32) then (
  some ((0 : Int32))) else (
  if xib ((12 : Int32) + v1) 101 then (
  if (h.2.2.2.1 56 0 ((12 : Int32) + v1).toNatClampNeg) = (0 : Int32) then (
  some ((1 : Int32))) else (
  some ((0 : Int32)))) else none)
set_option maxHeartbeats 4000000 in
set_option maxRecDepth 100000 in
theorem f_M_isInside_i_e_ok {g : xG} {l : Launch} {d : Nat} {v1 : Int32} {h : xH} {o : Int32} {R : Option xV} (hD : 1 ≤ d) (hf : f_M_isInside_i_e v1 h = some o) (K0 : ∀ (a : Int32), o = a → R = some (xi a)) : xEv g l d 186 0 [(0, xr 12 (some 0)), (1, xi v1)] [] h R h := by
  unfold f_M_isInside_i_e at hf
  refine xs_aload_n d186_0 rfl ?_
  refine xs_iload_n d186_1 rfl ?_
  obtain ⟨r1, hc2, hf⟩ := lk_b hf
  refine xe_callv1 (as := [xi v1]) (st := []) (h2 := h) (d2 := d - 1) d186_2 ky186 ml221 st185 (by decide) cn185 rfl na185 (Nat.le_of_ble_eq_true rfl) (by omega) (f_M_isSorrow_ok (by omega) hc2) ?_
  rcases lk_if hf with ⟨hc3, hf⟩ | ⟨hc3, hf⟩
  · refine xs_if_eq (tgt := 24) d186_5 (by decide) (fun _ => ?_) (fun hn => absurd hc3 hn)
    refine xs_iconst (v := 0) d186_24 (by decide) ?_
    obtain eR := K0 _ (Option.some.inj hf).symm
    subst eR
    exact xe_zret d186_25 (Or.inl rfl) rt186
  · refine xs_if_eq (tgt := 24) d186_5 (by decide) (fun hp => absurd hp hc3) (fun _ => ?_)
    refine xs_aload_n d186_8 rfl ?_
    refine xe_getc (j := 0) d186_9 ky186 fl181 fk12_20 rfl ?_
    refine xs_bipush (v := 12) d186_12 (by decide) ?_
    refine xs_iload_n d186_14 rfl ?_
    refine xs_iadd d186_15 ?_
    obtain ⟨hin4, hf⟩ := lk_g hf
    refine xe_iald d186_16 (by decide) ak56 hin4 ?_
    rcases lk_if hf with ⟨hc5, hf⟩ | ⟨hc5, hf⟩
    · refine xs_if_ne (tgt := 24) d186_17 (by decide) (fun _ => ?_) (fun hn => absurd hc5 hn)
      refine xs_iconst (v := 1) d186_20 (by decide) ?_
      refine xs_goto (tgt := 25) d186_21 (by decide) ?_
      obtain eR := K0 _ (Option.some.inj hf).symm
      subst eR
      exact xe_zret d186_25 (Or.inr rfl) rt186
    · refine xs_if_ne (tgt := 24) d186_17 (by decide) (fun hp => absurd hp hc5) (fun _ => ?_)
      refine xs_iconst (v := 0) d186_24 (by decide) ?_
      obtain eR := K0 _ (Option.some.inj hf).symm
      subst eR
      exact xe_zret d186_25 (Or.inl rfl) rt186
noncomputable def f_M_isInside_i (v1 : Int32) (h : xH) : Option Int32 := f_M_isInside_i_e v1 h
theorem f_M_isInside_i_ok {g : xG} {l : Launch} {d : Nat} {v1 : Int32} {h : xH} {r : Int32} (hD : 1 ≤ d) (hf : f_M_isInside_i v1 h = some r) : xC g l d 186 [xr 12 (some 0), xi v1] h (some (xi r)) h :=
  xC_of2 (by decide) mx186 (Nat.le_of_ble_eq_true rfl) (f_M_isInside_i_e_ok hD hf (fun _ e => by rw [e]))
theorem d187_0 : decode (xcode 187) 0 = .ok (.iconst 0, 1) := by decide +kernel
theorem d187_1 : decode (xcode 187) 1 = .ok (.istore_n 1, 1) := by decide +kernel
theorem d187_2 : decode (xcode 187) 2 = .ok (.iconst 0, 1) := by decide +kernel
theorem d187_3 : decode (xcode 187) 3 = .ok (.istore_n 2, 1) := by decide +kernel
theorem d187_4 : decode (xcode 187) 4 = .ok (.iload_n 2, 1) := by decide +kernel
theorem d187_5 : decode (xcode 187) 5 = .ok (.aload_n 0, 1) := by decide +kernel
theorem d187_6 : decode (xcode 187) 6 = .ok (.getfield 39, 3) := by decide +kernel
theorem d187_9 : decode (xcode 187) 9 = .ok (.iconst 3, 1) := by decide +kernel
theorem d187_10 : decode (xcode 187) 10 = .ok (.iaload, 1) := by decide +kernel
theorem d187_11 : decode (xcode 187) 11 = .ok (.if_icmp .ge 27, 3) := by decide +kernel
theorem d187_14 : decode (xcode 187) 14 = .ok (.iload_n 1, 1) := by decide +kernel
theorem d187_15 : decode (xcode 187) 15 = .ok (.aload_n 0, 1) := by decide +kernel
theorem d187_16 : decode (xcode 187) 16 = .ok (.iload_n 2, 1) := by decide +kernel
theorem d187_17 : decode (xcode 187) 17 = .ok (.invokevirtual 293, 3) := by decide +kernel
theorem d187_20 : decode (xcode 187) 20 = .ok (.ifCond .eq 9, 3) := by decide +kernel
theorem d187_23 : decode (xcode 187) 23 = .ok (.iconst 1, 1) := by decide +kernel
theorem d187_24 : decode (xcode 187) 24 = .ok (.iload_n 2, 1) := by decide +kernel
theorem d187_25 : decode (xcode 187) 25 = .ok (.ishl, 1) := by decide +kernel
theorem d187_26 : decode (xcode 187) 26 = .ok (.goto 4, 3) := by decide +kernel
theorem d187_29 : decode (xcode 187) 29 = .ok (.iconst 0, 1) := by decide +kernel
theorem d187_30 : decode (xcode 187) 30 = .ok (.ior, 1) := by decide +kernel
theorem d187_31 : decode (xcode 187) 31 = .ok (.istore_n 1, 1) := by decide +kernel
theorem d187_32 : decode (xcode 187) 32 = .ok (.iinc 2 1, 3) := by decide +kernel
theorem d187_35 : decode (xcode 187) 35 = .ok (.goto (-31), 3) := by decide +kernel
theorem d187_38 : decode (xcode 187) 38 = .ok (.iload_n 1, 1) := by decide +kernel
theorem d187_39 : decode (xcode 187) 39 = .ok (.ireturn, 1) := by decide +kernel
noncomputable def f_M_inside_b30 (v2 : Int32) (t0 : Int32) (t1 : Int32) (h : xH) : Option ((Int32 × Int32) ⊕ Int32) :=
  xlet (t1 ||| t0) fun v1_5 =>
  xlet (v2 + (1 : Int32)) fun v2_6 =>
  some (Sum.inl (v1_5, v2_6))
set_option maxHeartbeats 4000000 in
set_option maxRecDepth 100000 in
theorem f_M_inside_b30_ok {g : xG} {l : Launch} {d : Nat} {v2 : Int32} {t0 : Int32} {t1 : Int32} {h : xH} {o : ((Int32 × Int32) ⊕ Int32)} {R : Option xV} (hD : 2 ≤ d) (hf : f_M_inside_b30 v2 t0 t1 h = some o) (K1 : ∀ (w1 : Int32) (w2 : Int32), o = Sum.inl (w1, w2) → xEv g l d 187 4 [(0, xr 12 (some 0)), (1, xi w1), (2, xi w2)] [] h R h) (K0 : ∀ (a : Int32), o = Sum.inr (a) → R = some (xi a)) : xEv g l d 187 30 [(0, xr 12 (some 0)), (2, xi v2)] [xi t0, xi t1] h R h := by
  unfold f_M_inside_b30 at hf
  refine xs_ior d187_30 ?_
  obtain ⟨v1_5, ev1_5, hf⟩ := lk_let hf
  refine xe_istore_n (v := v1_5) (ls2 := [(0, xr 12 (some 0)), (1, xi v1_5), (2, xi v2)]) d187_31 mx187 (by decide) ev1_5 rfl ?_
  obtain ⟨v2_6, ev2_6, hf⟩ := lk_let hf
  refine xe_iinc (v := v2_6) (b := 1) (ls2 := [(0, xr 12 (some 0)), (1, xi v1_5), (2, xi v2_6)]) d187_32 mx187 (by decide) rfl (by decide) ev2_6 rfl ?_
  refine xs_goto (tgt := 4) d187_35 (by decide) ?_
  exact K1 _ _ (Option.some.inj hf).symm
noncomputable def f_M_inside_s4 (v1 : Int32) (v2 : Int32) (h : xH) : Option ((Int32 × Int32) ⊕ Int32) :=
  if (h.2.2.2.1 56 0 ((3 : Int32)).toNatClampNeg) ≤ v2 then (
  some (Sum.inr (v1))) else (
  (f_M_isInside_i v2 h).bind fun r2 =>
  if r2 = (0 : Int32) then (
  f_M_inside_b30 v2 (0 : Int32) v1 h) else (
  f_M_inside_b30 v2 ((1 : Int32) <<< (v2 &&& 31)) v1 h))
set_option maxHeartbeats 4000000 in
set_option maxRecDepth 100000 in
theorem f_M_inside_s4_ok {g : xG} {l : Launch} {d : Nat} {v1 : Int32} {v2 : Int32} {h : xH} {o : ((Int32 × Int32) ⊕ Int32)} {R : Option xV} (hD : 2 ≤ d) (hf : f_M_inside_s4 v1 v2 h = some o) (K1 : ∀ (w1 : Int32) (w2 : Int32), o = Sum.inl (w1, w2) → xEv g l d 187 4 [(0, xr 12 (some 0)), (1, xi w1), (2, xi w2)] [] h R h) (K0 : ∀ (a : Int32), o = Sum.inr (a) → R = some (xi a)) : xEv g l d 187 4 [(0, xr 12 (some 0)), (1, xi v1), (2, xi v2)] [] h R h := by
  unfold f_M_inside_s4 at hf
  refine xs_iload_n d187_4 rfl ?_
  refine xs_aload_n d187_5 rfl ?_
  refine xe_getc (j := 0) d187_6 ky187 fl181 fk12_20 rfl ?_
  refine xs_iconst (v := 3) d187_9 (by decide) ?_
  refine xe_iald d187_10 (by decide) ak56 (show xib (3 : Int32) 101 by decide) ?_
  rcases lk_if hf with ⟨hc1, hf⟩ | ⟨hc1, hf⟩
  · refine xs_icmp_ge (tgt := 38) d187_11 (by decide) (fun _ => ?_) (fun hn => absurd hc1 hn)
    refine xs_iload_n d187_38 rfl ?_
    obtain eR := K0 _ (Option.some.inj hf).symm
    subst eR
    exact xs_iret d187_39 rt187
  · refine xs_icmp_ge (tgt := 38) d187_11 (by decide) (fun hp => absurd hp hc1) (fun _ => ?_)
    refine xs_iload_n d187_14 rfl ?_
    refine xs_aload_n d187_15 rfl ?_
    refine xs_iload_n d187_16 rfl ?_
    obtain ⟨r2, hc3, hf⟩ := lk_b hf
    refine xe_callv1 (as := [xi v2]) (st := [xi v1]) (h2 := h) (d2 := d - 1) d187_17 ky187 ml230 st186 (by decide) cn186 rfl na186 (Nat.le_of_ble_eq_true rfl) (by omega) (f_M_isInside_i_ok (by omega) hc3) ?_
    rcases lk_if hf with ⟨hc4, hf⟩ | ⟨hc4, hf⟩
    · refine xs_if_eq (tgt := 29) d187_20 (by decide) (fun _ => ?_) (fun hn => absurd hc4 hn)
      refine xs_iconst (v := 0) d187_29 (by decide) ?_
      refine xs_pick [0, 2] rfl ?_
      exact f_M_inside_b30_ok hD hf K1 K0
    · refine xs_if_eq (tgt := 29) d187_20 (by decide) (fun hp => absurd hp hc4) (fun _ => ?_)
      refine xs_iconst (v := 1) d187_23 (by decide) ?_
      refine xs_iload_n d187_24 rfl ?_
      refine xs_ishl d187_25 ?_
      refine xs_goto (tgt := 30) d187_26 (by decide) ?_
      refine xs_pick [0, 2] rfl ?_
      exact f_M_inside_b30_ok hD hf K1 K0
noncomputable def f_M_inside_l4 (v1 : Int32) (v2 : Int32) (h : xH) : Option Int32 :=
  whl (fun s => f_M_inside_s4 s.1 s.2 h) (v1, v2)
theorem f_M_inside_l4_ok {g : xG} {l : Launch} {d : Nat} {v1 : Int32} {v2 : Int32} {h : xH} {o : Int32} {R : Option xV} (hD : 2 ≤ d) (hf : f_M_inside_l4 v1 v2 h = some o) (K0 : ∀ (a : Int32), o = a → R = some (xi a)) : xEv g l d 187 4 [(0, xr 12 (some 0)), (1, xi v1), (2, xi v2)] [] h R h := by
  obtain ⟨n, hn⟩ := whl_iff.mp hf
  clear hf
  induction n generalizing v1 v2 with
  | zero => cases hn
  | succ n ih =>
    obtain ⟨o2, hs, hn⟩ := lk_b (show (f_M_inside_s4 v1 v2 h).bind (fun o => Sum.elim (itn _ n) some o) = some o from hn)
    exact f_M_inside_s4_ok hD hs (fun u0 u1 e => ih (by rw [e] at hn; exact hn)) (fun u0 e => K0 u0 (by rw [e] at hn; exact (Option.some.inj hn).symm))
noncomputable def f_M_inside_e (h : xH) : Option Int32 :=
  f_M_inside_l4 (0 : Int32) (0 : Int32) h
set_option maxHeartbeats 4000000 in
set_option maxRecDepth 100000 in
theorem f_M_inside_e_ok {g : xG} {l : Launch} {d : Nat} {h : xH} {o : Int32} {R : Option xV} (hD : 2 ≤ d) (hf : f_M_inside_e h = some o) (K0 : ∀ (a : Int32), o = a → R = some (xi a)) : xEv g l d 187 0 [(0, xr 12 (some 0))] [] h R h := by
  unfold f_M_inside_e at hf
  refine xs_iconst (v := 0) d187_0 (by decide) ?_
  refine xe_istore_n (v := (0 : Int32)) (ls2 := [(0, xr 12 (some 0)), (1, xi (0 : Int32))]) d187_1 mx187 (by decide) rfl rfl ?_
  refine xs_iconst (v := 0) d187_2 (by decide) ?_
  refine xe_istore_n (v := (0 : Int32)) (ls2 := [(0, xr 12 (some 0)), (1, xi (0 : Int32)), (2, xi (0 : Int32))]) d187_3 mx187 (by decide) rfl rfl ?_
  exact f_M_inside_l4_ok hD hf K0
noncomputable def f_M_inside (h : xH) : Option Int32 := f_M_inside_e h
theorem f_M_inside_ok {g : xG} {l : Launch} {d : Nat} {h : xH} {r : Int32} (hD : 2 ≤ d) (hf : f_M_inside h = some r) : xC g l d 187 [xr 12 (some 0)] h (some (xi r)) h :=
  xC_of2 (by decide) mx187 (Nat.le_of_ble_eq_true rfl) (f_M_inside_e_ok hD hf (fun _ e => by rw [e]))
theorem d188_0 : decode (xcode 188) 0 = .ok (.aload_n 0, 1) := by decide +kernel
theorem d188_1 : decode (xcode 188) 1 = .ok (.iload_n 1, 1) := by decide +kernel
theorem d188_2 : decode (xcode 188) 2 = .ok (.invokevirtual 293, 3) := by decide +kernel
theorem d188_5 : decode (xcode 188) 5 = .ok (.ifCond .eq 24, 3) := by decide +kernel
theorem d188_8 : decode (xcode 188) 8 = .ok (.aload_n 0, 1) := by decide +kernel
theorem d188_9 : decode (xcode 188) 9 = .ok (.getfield 39, 3) := by decide +kernel
theorem d188_12 : decode (xcode 188) 12 = .ok (.bipush 36, 2) := by decide +kernel
theorem d188_14 : decode (xcode 188) 14 = .ok (.iload_n 1, 1) := by decide +kernel
theorem d188_15 : decode (xcode 188) 15 = .ok (.iadd, 1) := by decide +kernel
theorem d188_16 : decode (xcode 188) 16 = .ok (.iaload, 1) := by decide +kernel
theorem d188_17 : decode (xcode 188) 17 = .ok (.aload_n 0, 1) := by decide +kernel
theorem d188_18 : decode (xcode 188) 18 = .ok (.invokevirtual 295, 3) := by decide +kernel
theorem d188_21 : decode (xcode 188) 21 = .ok (.iand, 1) := by decide +kernel
theorem d188_22 : decode (xcode 188) 22 = .ok (.ifCond .ne 7, 3) := by decide +kernel
theorem d188_25 : decode (xcode 188) 25 = .ok (.iconst 1, 1) := by decide +kernel
theorem d188_26 : decode (xcode 188) 26 = .ok (.goto 4, 3) := by decide +kernel
theorem d188_29 : decode (xcode 188) 29 = .ok (.iconst 0, 1) := by decide +kernel
theorem d188_30 : decode (xcode 188) 30 = .ok (.ireturn, 1) := by decide +kernel
noncomputable def f_M_isLoose_e (v1 : Int32) (h : xH) : Option Int32 :=
  (f_M_isInside_i v1 h).bind fun r1 =>
  if r1 = (0 : Int32) then (
  some ((0 : Int32))) else (
  if xib ((36 : Int32) + v1) 101 then (
  (f_M_inside h).bind fun r5 =>
  if ((h.2.2.2.1 56 0 ((36 : Int32) + v1).toNatClampNeg) &&& r5) = (0 : Int32) then (
  some ((1 : Int32))) else (
  some ((0 : Int32)))) else none)
set_option maxHeartbeats 4000000 in
set_option maxRecDepth 100000 in
theorem f_M_isLoose_e_ok {g : xG} {l : Launch} {d : Nat} {v1 : Int32} {h : xH} {o : Int32} {R : Option xV} (hD : 3 ≤ d) (hf : f_M_isLoose_e v1 h = some o) (K0 : ∀ (a : Int32), o = a → R = some (xi a)) : xEv g l d 188 0 [(0, xr 12 (some 0)), (1, xi v1)] [] h R h := by
  unfold f_M_isLoose_e at hf
  refine xs_aload_n d188_0 rfl ?_
  refine xs_iload_n d188_1 rfl ?_
  obtain ⟨r1, hc2, hf⟩ := lk_b hf
  refine xe_callv1 (as := [xi v1]) (st := []) (h2 := h) (d2 := d - 1) d188_2 ky188 ml230 st186 (by decide) cn186 rfl na186 (Nat.le_of_ble_eq_true rfl) (by omega) (f_M_isInside_i_ok (by omega) hc2) ?_
  rcases lk_if hf with ⟨hc3, hf⟩ | ⟨hc3, hf⟩
  · refine xs_if_eq (tgt := 29) d188_5 (by decide) (fun _ => ?_) (fun hn => absurd hc3 hn)
    refine xs_iconst (v := 0) d188_29 (by decide) ?_
    obtain eR := K0 _ (Option.some.inj hf).symm
    subst eR
    exact xe_zret d188_30 (Or.inl rfl) rt188
  · refine xs_if_eq (tgt := 29) d188_5 (by decide) (fun hp => absurd hp hc3) (fun _ => ?_)
    refine xs_aload_n d188_8 rfl ?_
    refine xe_getc (j := 0) d188_9 ky188 fl181 fk12_20 rfl ?_
    refine xs_bipush (v := 36) d188_12 (by decide) ?_
    refine xs_iload_n d188_14 rfl ?_
    refine xs_iadd d188_15 ?_
    obtain ⟨hin4, hf⟩ := lk_g hf
    refine xe_iald d188_16 (by decide) ak56 hin4 ?_
    refine xs_aload_n d188_17 rfl ?_
    obtain ⟨r5, hc6, hf⟩ := lk_b hf
    refine xe_callv1 (as := []) (st := [xi (h.2.2.2.1 56 0 ((36 : Int32) + v1).toNatClampNeg)]) (h2 := h) (d2 := d - 1) d188_18 ky188 ml231 st187 (by decide) cn187 rfl na187 (Nat.le_of_ble_eq_true rfl) (by omega) (f_M_inside_ok (by omega) hc6) ?_
    refine xs_iand d188_21 ?_
    rcases lk_if hf with ⟨hc7, hf⟩ | ⟨hc7, hf⟩
    · refine xs_if_ne (tgt := 29) d188_22 (by decide) (fun _ => ?_) (fun hn => absurd hc7 hn)
      refine xs_iconst (v := 1) d188_25 (by decide) ?_
      refine xs_goto (tgt := 30) d188_26 (by decide) ?_
      obtain eR := K0 _ (Option.some.inj hf).symm
      subst eR
      exact xe_zret d188_30 (Or.inr rfl) rt188
    · refine xs_if_ne (tgt := 29) d188_22 (by decide) (fun hp => absurd hp hc7) (fun _ => ?_)
      refine xs_iconst (v := 0) d188_29 (by decide) ?_
      obtain eR := K0 _ (Option.some.inj hf).symm
      subst eR
      exact xe_zret d188_30 (Or.inl rfl) rt188
noncomputable def f_M_isLoose (v1 : Int32) (h : xH) : Option Int32 := f_M_isLoose_e v1 h
theorem f_M_isLoose_ok {g : xG} {l : Launch} {d : Nat} {v1 : Int32} {h : xH} {r : Int32} (hD : 3 ≤ d) (hf : f_M_isLoose v1 h = some r) : xC g l d 188 [xr 12 (some 0), xi v1] h (some (xi r)) h :=
  xC_of2 (by decide) mx188 (Nat.le_of_ble_eq_true rfl) (f_M_isLoose_e_ok hD hf (fun _ e => by rw [e]))
theorem d189_0 : decode (xcode 189) 0 = .ok (.iconst 0, 1) := by decide +kernel
theorem d189_1 : decode (xcode 189) 1 = .ok (.istore_n 1, 1) := by decide +kernel
theorem d189_2 : decode (xcode 189) 2 = .ok (.iconst 0, 1) := by decide +kernel
theorem d189_3 : decode (xcode 189) 3 = .ok (.istore_n 2, 1) := by decide +kernel
theorem d189_4 : decode (xcode 189) 4 = .ok (.iload_n 2, 1) := by decide +kernel
theorem d189_5 : decode (xcode 189) 5 = .ok (.aload_n 0, 1) := by decide +kernel
theorem d189_6 : decode (xcode 189) 6 = .ok (.getfield 39, 3) := by decide +kernel
theorem d189_9 : decode (xcode 189) 9 = .ok (.iconst 3, 1) := by decide +kernel
theorem d189_10 : decode (xcode 189) 10 = .ok (.iaload, 1) := by decide +kernel
theorem d189_11 : decode (xcode 189) 11 = .ok (.if_icmp .ge 27, 3) := by decide +kernel
theorem d189_14 : decode (xcode 189) 14 = .ok (.iload_n 1, 1) := by decide +kernel
theorem d189_15 : decode (xcode 189) 15 = .ok (.aload_n 0, 1) := by decide +kernel
theorem d189_16 : decode (xcode 189) 16 = .ok (.iload_n 2, 1) := by decide +kernel
theorem d189_17 : decode (xcode 189) 17 = .ok (.invokevirtual 298, 3) := by decide +kernel
theorem d189_20 : decode (xcode 189) 20 = .ok (.ifCond .eq 9, 3) := by decide +kernel
theorem d189_23 : decode (xcode 189) 23 = .ok (.iconst 1, 1) := by decide +kernel
theorem d189_24 : decode (xcode 189) 24 = .ok (.iload_n 2, 1) := by decide +kernel
theorem d189_25 : decode (xcode 189) 25 = .ok (.ishl, 1) := by decide +kernel
theorem d189_26 : decode (xcode 189) 26 = .ok (.goto 4, 3) := by decide +kernel
theorem d189_29 : decode (xcode 189) 29 = .ok (.iconst 0, 1) := by decide +kernel
theorem d189_30 : decode (xcode 189) 30 = .ok (.ior, 1) := by decide +kernel
theorem d189_31 : decode (xcode 189) 31 = .ok (.istore_n 1, 1) := by decide +kernel
theorem d189_32 : decode (xcode 189) 32 = .ok (.iinc 2 1, 3) := by decide +kernel
theorem d189_35 : decode (xcode 189) 35 = .ok (.goto (-31), 3) := by decide +kernel
theorem d189_38 : decode (xcode 189) 38 = .ok (.iload_n 1, 1) := by decide +kernel
theorem d189_39 : decode (xcode 189) 39 = .ok (.ireturn, 1) := by decide +kernel
noncomputable def f_M_looseOnes_b30 (v2 : Int32) (t0 : Int32) (t1 : Int32) (h : xH) : Option ((Int32 × Int32) ⊕ Int32) :=
  xlet (t1 ||| t0) fun v1_5 =>
  xlet (v2 + (1 : Int32)) fun v2_6 =>
  some (Sum.inl (v1_5, v2_6))
set_option maxHeartbeats 4000000 in
set_option maxRecDepth 100000 in
theorem f_M_looseOnes_b30_ok {g : xG} {l : Launch} {d : Nat} {v2 : Int32} {t0 : Int32} {t1 : Int32} {h : xH} {o : ((Int32 × Int32) ⊕ Int32)} {R : Option xV} (hD : 4 ≤ d) (hf : f_M_looseOnes_b30 v2 t0 t1 h = some o) (K1 : ∀ (w1 : Int32) (w2 : Int32), o = Sum.inl (w1, w2) → xEv g l d 189 4 [(0, xr 12 (some 0)), (1, xi w1), (2, xi w2)] [] h R h) (K0 : ∀ (a : Int32), o = Sum.inr (a) → R = some (xi a)) : xEv g l d 189 30 [(0, xr 12 (some 0)), (2, xi v2)] [xi t0, xi t1] h R h := by
  unfold f_M_looseOnes_b30 at hf
  refine xs_ior d189_30 ?_
  obtain ⟨v1_5, ev1_5, hf⟩ := lk_let hf
  refine xe_istore_n (v := v1_5) (ls2 := [(0, xr 12 (some 0)), (1, xi v1_5), (2, xi v2)]) d189_31 mx189 (by decide) ev1_5 rfl ?_
  obtain ⟨v2_6, ev2_6, hf⟩ := lk_let hf
  refine xe_iinc (v := v2_6) (b := 1) (ls2 := [(0, xr 12 (some 0)), (1, xi v1_5), (2, xi v2_6)]) d189_32 mx189 (by decide) rfl (by decide) ev2_6 rfl ?_
  refine xs_goto (tgt := 4) d189_35 (by decide) ?_
  exact K1 _ _ (Option.some.inj hf).symm
noncomputable def f_M_looseOnes_s4 (v1 : Int32) (v2 : Int32) (h : xH) : Option ((Int32 × Int32) ⊕ Int32) :=
  if (h.2.2.2.1 56 0 ((3 : Int32)).toNatClampNeg) ≤ v2 then (
  some (Sum.inr (v1))) else (
  (f_M_isLoose v2 h).bind fun r2 =>
  if r2 = (0 : Int32) then (
  f_M_looseOnes_b30 v2 (0 : Int32) v1 h) else (
  f_M_looseOnes_b30 v2 ((1 : Int32) <<< (v2 &&& 31)) v1 h))
set_option maxHeartbeats 4000000 in
set_option maxRecDepth 100000 in
theorem f_M_looseOnes_s4_ok {g : xG} {l : Launch} {d : Nat} {v1 : Int32} {v2 : Int32} {h : xH} {o : ((Int32 × Int32) ⊕ Int32)} {R : Option xV} (hD : 4 ≤ d) (hf : f_M_looseOnes_s4 v1 v2 h = some o) (K1 : ∀ (w1 : Int32) (w2 : Int32), o = Sum.inl (w1, w2) → xEv g l d 189 4 [(0, xr 12 (some 0)), (1, xi w1), (2, xi w2)] [] h R h) (K0 : ∀ (a : Int32), o = Sum.inr (a) → R = some (xi a)) : xEv g l d 189 4 [(0, xr 12 (some 0)), (1, xi v1), (2, xi v2)] [] h R h := by
  unfold f_M_looseOnes_s4 at hf
  refine xs_iload_n d189_4 rfl ?_
  refine xs_aload_n d189_5 rfl ?_
  refine xe_getc (j := 0) d189_6 ky189 fl181 fk12_20 rfl ?_
  refine xs_iconst (v := 3) d189_9 (by decide) ?_
  refine xe_iald d189_10 (by decide) ak56 (show xib (3 : Int32) 101 by decide) ?_
  rcases lk_if hf with ⟨hc1, hf⟩ | ⟨hc1, hf⟩
  · refine xs_icmp_ge (tgt := 38) d189_11 (by decide) (fun _ => ?_) (fun hn => absurd hc1 hn)
    refine xs_iload_n d189_38 rfl ?_
    obtain eR := K0 _ (Option.some.inj hf).symm
    subst eR
    exact xs_iret d189_39 rt189
  · refine xs_icmp_ge (tgt := 38) d189_11 (by decide) (fun hp => absurd hp hc1) (fun _ => ?_)
    refine xs_iload_n d189_14 rfl ?_
    refine xs_aload_n d189_15 rfl ?_
    refine xs_iload_n d189_16 rfl ?_
    obtain ⟨r2, hc3, hf⟩ := lk_b hf
    refine xe_callv1 (as := [xi v2]) (st := [xi v1]) (h2 := h) (d2 := d - 1) d189_17 ky189 ml229 st188 (by decide) cn188 rfl na188 (Nat.le_of_ble_eq_true rfl) (by omega) (f_M_isLoose_ok (by omega) hc3) ?_
    rcases lk_if hf with ⟨hc4, hf⟩ | ⟨hc4, hf⟩
    · refine xs_if_eq (tgt := 29) d189_20 (by decide) (fun _ => ?_) (fun hn => absurd hc4 hn)
      refine xs_iconst (v := 0) d189_29 (by decide) ?_
      refine xs_pick [0, 2] rfl ?_
      exact f_M_looseOnes_b30_ok hD hf K1 K0
    · refine xs_if_eq (tgt := 29) d189_20 (by decide) (fun hp => absurd hp hc4) (fun _ => ?_)
      refine xs_iconst (v := 1) d189_23 (by decide) ?_
      refine xs_iload_n d189_24 rfl ?_
      refine xs_ishl d189_25 ?_
      refine xs_goto (tgt := 30) d189_26 (by decide) ?_
      refine xs_pick [0, 2] rfl ?_
      exact f_M_looseOnes_b30_ok hD hf K1 K0
noncomputable def f_M_looseOnes_l4 (v1 : Int32) (v2 : Int32) (h : xH) : Option Int32 :=
  whl (fun s => f_M_looseOnes_s4 s.1 s.2 h) (v1, v2)
theorem f_M_looseOnes_l4_ok {g : xG} {l : Launch} {d : Nat} {v1 : Int32} {v2 : Int32} {h : xH} {o : Int32} {R : Option xV} (hD : 4 ≤ d) (hf : f_M_looseOnes_l4 v1 v2 h = some o) (K0 : ∀ (a : Int32), o = a → R = some (xi a)) : xEv g l d 189 4 [(0, xr 12 (some 0)), (1, xi v1), (2, xi v2)] [] h R h := by
  obtain ⟨n, hn⟩ := whl_iff.mp hf
  clear hf
  induction n generalizing v1 v2 with
  | zero => cases hn
  | succ n ih =>
    obtain ⟨o2, hs, hn⟩ := lk_b (show (f_M_looseOnes_s4 v1 v2 h).bind (fun o => Sum.elim (itn _ n) some o) = some o from hn)
    exact f_M_looseOnes_s4_ok hD hs (fun u0 u1 e => ih (by rw [e] at hn; exact hn)) (fun u0 e => K0 u0 (by rw [e] at hn; exact (Option.some.inj hn).symm))
noncomputable def f_M_looseOnes_e (h : xH) : Option Int32 :=
  f_M_looseOnes_l4 (0 : Int32) (0 : Int32) h
set_option maxHeartbeats 4000000 in
set_option maxRecDepth 100000 in
theorem f_M_looseOnes_e_ok {g : xG} {l : Launch} {d : Nat} {h : xH} {o : Int32} {R : Option xV} (hD : 4 ≤ d) (hf : f_M_looseOnes_e h = some o) (K0 : ∀ (a : Int32), o = a → R = some (xi a)) : xEv g l d 189 0 [(0, xr 12 (some 0))] [] h R h := by
  unfold f_M_looseOnes_e at hf
  refine xs_iconst (v := 0) d189_0 (by decide) ?_
  refine xe_istore_n (v := (0 : Int32)) (ls2 := [(0, xr 12 (some 0)), (1, xi (0 : Int32))]) d189_1 mx189 (by decide) rfl rfl ?_
  refine xs_iconst (v := 0) d189_2 (by decide) ?_
  refine xe_istore_n (v := (0 : Int32)) (ls2 := [(0, xr 12 (some 0)), (1, xi (0 : Int32)), (2, xi (0 : Int32))]) d189_3 mx189 (by decide) rfl rfl ?_
  exact f_M_looseOnes_l4_ok hD hf K0
noncomputable def f_M_looseOnes (h : xH) : Option Int32 := f_M_looseOnes_e h
theorem f_M_looseOnes_ok {g : xG} {l : Launch} {d : Nat} {h : xH} {r : Int32} (hD : 4 ≤ d) (hf : f_M_looseOnes h = some r) : xC g l d 189 [xr 12 (some 0)] h (some (xi r)) h :=
  xC_of2 (by decide) mx189 (Nat.le_of_ble_eq_true rfl) (f_M_looseOnes_e_ok hD hf (fun _ e => by rw [e]))
