theorem d237_0 : decode (xcode 237) 0 = .ok (.aload_n 0, 1) := by decide +kernel
theorem d237_1 : decode (xcode 237) 1 = .ok (.getfield 39, 3) := by decide +kernel
theorem d237_4 : decode (xcode 237) 4 = .ok (.bipush 12, 2) := by decide +kernel
theorem d237_6 : decode (xcode 237) 6 = .ok (.iload_n 1, 1) := by decide +kernel
theorem d237_7 : decode (xcode 237) 7 = .ok (.iadd, 1) := by decide +kernel
theorem d237_8 : decode (xcode 237) 8 = .ok (.iaload, 1) := by decide +kernel
theorem d237_9 : decode (xcode 237) 9 = .ok (.iconst 1, 1) := by decide +kernel
theorem d237_10 : decode (xcode 237) 10 = .ok (.if_icmp .ne 15, 3) := by decide +kernel
theorem d237_13 : decode (xcode 237) 13 = .ok (.aload_n 0, 1) := by decide +kernel
theorem d237_14 : decode (xcode 237) 14 = .ok (.getfield 39, 3) := by decide +kernel
theorem d237_17 : decode (xcode 237) 17 = .ok (.bipush 52, 2) := by decide +kernel
theorem d237_19 : decode (xcode 237) 19 = .ok (.iload_n 1, 1) := by decide +kernel
theorem d237_20 : decode (xcode 237) 20 = .ok (.iadd, 1) := by decide +kernel
theorem d237_21 : decode (xcode 237) 21 = .ok (.iaload, 1) := by decide +kernel
theorem d237_22 : decode (xcode 237) 22 = .ok (.goto 4, 3) := by decide +kernel
theorem d237_25 : decode (xcode 237) 25 = .ok (.iconst 0, 1) := by decide +kernel
theorem d237_26 : decode (xcode 237) 26 = .ok (.ireturn, 1) := by decide +kernel
noncomputable def f_M_deepOf_e (v1 : Int32) (h : xH) : Option Int32 :=
  if xib ((12 : Int32) + v1) 101 then (
  if (h.2.2.2.1 56 0 ((12 : Int32) + v1).toNatClampNeg) = (1 : Int32) then (
  if xib ((52 : Int32) + v1) 101 then (
  some (h.2.2.2.1 56 0 ((52 : Int32) + v1).toNatClampNeg)) else none) else (
  some ((0 : Int32)))) else none
set_option maxHeartbeats 4000000 in
set_option maxRecDepth 100000 in
theorem f_M_deepOf_e_ok {g : xG} {l : Launch} {d : Nat} {v1 : Int32} {h : xH} {o : Int32} {R : Option xV} (hD : 0 ≤ d) (hf : f_M_deepOf_e v1 h = some o) (K0 : ∀ (a : Int32), o = a → R = some (xi a)) : xEv g l d 237 0 [(0, xr 12 (some 0)), (1, xi v1)] [] h R h := by
  unfold f_M_deepOf_e at hf
  refine xs_aload_n d237_0 rfl ?_
  refine xe_getc (j := 0) d237_1 ky237 fl181 fk12_20 rfl ?_
  refine xs_bipush (v := 12) d237_4 (by decide) ?_
  refine xs_iload_n d237_6 rfl ?_
  refine xs_iadd d237_7 ?_
  obtain ⟨hin1, hf⟩ := lk_g hf
  refine xe_iald d237_8 (by decide) ak56 hin1 ?_
  refine xs_iconst (v := 1) d237_9 (by decide) ?_
  rcases lk_if hf with ⟨hc2, hf⟩ | ⟨hc2, hf⟩
  · refine xs_icmp_ne (tgt := 25) d237_10 (by decide) (fun _ => ?_) (fun hn => absurd hc2 hn)
    refine xs_aload_n d237_13 rfl ?_
    refine xe_getc (j := 0) d237_14 ky237 fl181 fk12_20 rfl ?_
    refine xs_bipush (v := 52) d237_17 (by decide) ?_
    refine xs_iload_n d237_19 rfl ?_
    refine xs_iadd d237_20 ?_
    obtain ⟨hin3, hf⟩ := lk_g hf
    refine xe_iald d237_21 (by decide) ak56 hin3 ?_
    refine xs_goto (tgt := 26) d237_22 (by decide) ?_
    obtain eR := K0 _ (Option.some.inj hf).symm
    subst eR
    exact xs_iret d237_26 rt237
  · refine xs_icmp_ne (tgt := 25) d237_10 (by decide) (fun hp => absurd hp hc2) (fun _ => ?_)
    refine xs_iconst (v := 0) d237_25 (by decide) ?_
    obtain eR := K0 _ (Option.some.inj hf).symm
    subst eR
    exact xs_iret d237_26 rt237
noncomputable def f_M_deepOf (v1 : Int32) (h : xH) : Option Int32 := f_M_deepOf_e v1 h
theorem f_M_deepOf_ok {g : xG} {l : Launch} {d : Nat} {v1 : Int32} {h : xH} {r : Int32} (hD : 0 ≤ d) (hf : f_M_deepOf v1 h = some r) : xC g l d 237 [xr 12 (some 0), xi v1] h (some (xi r)) h :=
  xC_of2 (by decide) mx237 (Nat.le_of_ble_eq_true rfl) (f_M_deepOf_e_ok hD hf (fun _ e => by rw [e]))
theorem d238_0 : decode (xcode 238) 0 = .ok (.aload_n 0, 1) := by decide +kernel
theorem d238_1 : decode (xcode 238) 1 = .ok (.iload_n 2, 1) := by decide +kernel
theorem d238_2 : decode (xcode 238) 2 = .ok (.invokevirtual 290, 3) := by decide +kernel
theorem d238_5 : decode (xcode 238) 5 = .ok (.ifCond .eq 15, 3) := by decide +kernel
theorem d238_8 : decode (xcode 238) 8 = .ok (.iload_n 1, 1) := by decide +kernel
theorem d238_9 : decode (xcode 238) 9 = .ok (.i2l, 1) := by decide +kernel
theorem d238_10 : decode (xcode 238) 10 = .ok (.lconst 0, 1) := by decide +kernel
theorem d238_11 : decode (xcode 238) 11 = .ok (.ldc2_w 424, 3) := by decide +kernel
theorem d238_14 : decode (xcode 238) 14 = .ok (.invokestatic 124, 3) := by decide +kernel
theorem d238_17 : decode (xcode 238) 17 = .ok (.ifCond .ne 5, 3) := by decide +kernel
theorem d238_20 : decode (xcode 238) 20 = .ok (.iconst (-1), 1) := by decide +kernel
theorem d238_21 : decode (xcode 238) 21 = .ok (.ireturn, 1) := by decide +kernel
theorem d238_22 : decode (xcode 238) 22 = .ok (.aload_n 0, 1) := by decide +kernel
theorem d238_23 : decode (xcode 238) 23 = .ok (.invokevirtual 327, 3) := by decide +kernel
theorem d238_26 : decode (xcode 238) 26 = .ok (.istore_n 3, 1) := by decide +kernel
theorem d238_27 : decode (xcode 238) 27 = .ok (.iload_n 3, 1) := by decide +kernel
theorem d238_28 : decode (xcode 238) 28 = .ok (.ifCond .eq 16, 3) := by decide +kernel
theorem d238_31 : decode (xcode 238) 31 = .ok (.aload_n 0, 1) := by decide +kernel
theorem d238_32 : decode (xcode 238) 32 = .ok (.getfield 39, 3) := by decide +kernel
theorem d238_35 : decode (xcode 238) 35 = .ok (.bipush 12, 2) := by decide +kernel
theorem d238_37 : decode (xcode 238) 37 = .ok (.iload_n 2, 1) := by decide +kernel
theorem d238_38 : decode (xcode 238) 38 = .ok (.iadd, 1) := by decide +kernel
theorem d238_39 : decode (xcode 238) 39 = .ok (.iaload, 1) := by decide +kernel
theorem d238_40 : decode (xcode 238) 40 = .ok (.iconst 1, 1) := by decide +kernel
theorem d238_41 : decode (xcode 238) 41 = .ok (.if_icmp .eq 5, 3) := by decide +kernel
theorem d238_44 : decode (xcode 238) 44 = .ok (.iconst 0, 1) := by decide +kernel
theorem d238_45 : decode (xcode 238) 45 = .ok (.ireturn, 1) := by decide +kernel
theorem d238_46 : decode (xcode 238) 46 = .ok (.iload_n 1, 1) := by decide +kernel
theorem d238_47 : decode (xcode 238) 47 = .ok (.aload_n 0, 1) := by decide +kernel
theorem d238_48 : decode (xcode 238) 48 = .ok (.iload_n 2, 1) := by decide +kernel
theorem d238_49 : decode (xcode 238) 49 = .ok (.invokevirtual 426, 3) := by decide +kernel
theorem d238_52 : decode (xcode 238) 52 = .ok (.imul, 1) := by decide +kernel
theorem d238_53 : decode (xcode 238) 53 = .ok (.istore 4, 2) := by decide +kernel
theorem d238_55 : decode (xcode 238) 55 = .ok (.iload_n 1, 1) := by decide +kernel
theorem d238_56 : decode (xcode 238) 56 = .ok (.istore 5, 2) := by decide +kernel
theorem d238_58 : decode (xcode 238) 58 = .ok (.iconst 0, 1) := by decide +kernel
theorem d238_59 : decode (xcode 238) 59 = .ok (.istore 6, 2) := by decide +kernel
theorem d238_61 : decode (xcode 238) 61 = .ok (.iconst 0, 1) := by decide +kernel
theorem d238_62 : decode (xcode 238) 62 = .ok (.istore 7, 2) := by decide +kernel
theorem d238_64 : decode (xcode 238) 64 = .ok (.iload 7, 2) := by decide +kernel
theorem d238_66 : decode (xcode 238) 66 = .ok (.aload_n 0, 1) := by decide +kernel
theorem d238_67 : decode (xcode 238) 67 = .ok (.getfield 39, 3) := by decide +kernel
theorem d238_70 : decode (xcode 238) 70 = .ok (.iconst 3, 1) := by decide +kernel
theorem d238_71 : decode (xcode 238) 71 = .ok (.iaload, 1) := by decide +kernel
theorem d238_72 : decode (xcode 238) 72 = .ok (.if_icmp .ge 83, 3) := by decide +kernel
theorem d238_75 : decode (xcode 238) 75 = .ok (.aload_n 0, 1) := by decide +kernel
theorem d238_76 : decode (xcode 238) 76 = .ok (.getfield 39, 3) := by decide +kernel
theorem d238_79 : decode (xcode 238) 79 = .ok (.bipush 12, 2) := by decide +kernel
theorem d238_81 : decode (xcode 238) 81 = .ok (.iload 7, 2) := by decide +kernel
theorem d238_83 : decode (xcode 238) 83 = .ok (.iadd, 1) := by decide +kernel
theorem d238_84 : decode (xcode 238) 84 = .ok (.iaload, 1) := by decide +kernel
theorem d238_85 : decode (xcode 238) 85 = .ok (.iconst 1, 1) := by decide +kernel
theorem d238_86 : decode (xcode 238) 86 = .ok (.if_icmp .eq 6, 3) := by decide +kernel
theorem d238_89 : decode (xcode 238) 89 = .ok (.goto 60, 3) := by decide +kernel
theorem d238_92 : decode (xcode 238) 92 = .ok (.iload_n 1, 1) := by decide +kernel
theorem d238_93 : decode (xcode 238) 93 = .ok (.aload_n 0, 1) := by decide +kernel
theorem d238_94 : decode (xcode 238) 94 = .ok (.iload 7, 2) := by decide +kernel
theorem d238_96 : decode (xcode 238) 96 = .ok (.invokevirtual 426, 3) := by decide +kernel
theorem d238_99 : decode (xcode 238) 99 = .ok (.imul, 1) := by decide +kernel
theorem d238_100 : decode (xcode 238) 100 = .ok (.istore 8, 2) := by decide +kernel
theorem d238_102 : decode (xcode 238) 102 = .ok (.iload 5, 2) := by decide +kernel
theorem d238_104 : decode (xcode 238) 104 = .ok (.iload 8, 2) := by decide +kernel
theorem d238_106 : decode (xcode 238) 106 = .ok (.iload_n 3, 1) := by decide +kernel
theorem d238_107 : decode (xcode 238) 107 = .ok (.idiv, 1) := by decide +kernel
theorem d238_108 : decode (xcode 238) 108 = .ok (.isub, 1) := by decide +kernel
theorem d238_109 : decode (xcode 238) 109 = .ok (.istore 5, 2) := by decide +kernel
theorem d238_111 : decode (xcode 238) 111 = .ok (.iload 6, 2) := by decide +kernel
theorem d238_113 : decode (xcode 238) 113 = .ok (.iload 8, 2) := by decide +kernel
theorem d238_115 : decode (xcode 238) 115 = .ok (.iload_n 3, 1) := by decide +kernel
theorem d238_116 : decode (xcode 238) 116 = .ok (.irem, 1) := by decide +kernel
theorem d238_117 : decode (xcode 238) 117 = .ok (.iload 4, 2) := by decide +kernel
theorem d238_119 : decode (xcode 238) 119 = .ok (.iload_n 3, 1) := by decide +kernel
theorem d238_120 : decode (xcode 238) 120 = .ok (.irem, 1) := by decide +kernel
theorem d238_121 : decode (xcode 238) 121 = .ok (.if_icmp .gt 20, 3) := by decide +kernel
theorem d238_124 : decode (xcode 238) 124 = .ok (.iload 8, 2) := by decide +kernel
theorem d238_126 : decode (xcode 238) 126 = .ok (.iload_n 3, 1) := by decide +kernel
theorem d238_127 : decode (xcode 238) 127 = .ok (.irem, 1) := by decide +kernel
theorem d238_128 : decode (xcode 238) 128 = .ok (.iload 4, 2) := by decide +kernel
theorem d238_130 : decode (xcode 238) 130 = .ok (.iload_n 3, 1) := by decide +kernel
theorem d238_131 : decode (xcode 238) 131 = .ok (.irem, 1) := by decide +kernel
theorem d238_132 : decode (xcode 238) 132 = .ok (.if_icmp .ne 13, 3) := by decide +kernel
theorem d238_135 : decode (xcode 238) 135 = .ok (.iload 7, 2) := by decide +kernel
theorem d238_137 : decode (xcode 238) 137 = .ok (.iload_n 2, 1) := by decide +kernel
theorem d238_138 : decode (xcode 238) 138 = .ok (.if_icmp .ge 7, 3) := by decide +kernel
theorem d238_141 : decode (xcode 238) 141 = .ok (.iconst 1, 1) := by decide +kernel
theorem d238_142 : decode (xcode 238) 142 = .ok (.goto 4, 3) := by decide +kernel
theorem d238_145 : decode (xcode 238) 145 = .ok (.iconst 0, 1) := by decide +kernel
theorem d238_146 : decode (xcode 238) 146 = .ok (.iadd, 1) := by decide +kernel
theorem d238_147 : decode (xcode 238) 147 = .ok (.istore 6, 2) := by decide +kernel
theorem d238_149 : decode (xcode 238) 149 = .ok (.iinc 7 1, 3) := by decide +kernel
theorem d238_152 : decode (xcode 238) 152 = .ok (.goto (-88), 3) := by decide +kernel
theorem d238_155 : decode (xcode 238) 155 = .ok (.iload 4, 2) := by decide +kernel
theorem d238_157 : decode (xcode 238) 157 = .ok (.iload_n 3, 1) := by decide +kernel
theorem d238_158 : decode (xcode 238) 158 = .ok (.idiv, 1) := by decide +kernel
theorem d238_159 : decode (xcode 238) 159 = .ok (.iload 6, 2) := by decide +kernel
theorem d238_161 : decode (xcode 238) 161 = .ok (.iload 5, 2) := by decide +kernel
theorem d238_163 : decode (xcode 238) 163 = .ok (.if_icmp .ge 7, 3) := by decide +kernel
theorem d238_166 : decode (xcode 238) 166 = .ok (.iconst 1, 1) := by decide +kernel
theorem d238_167 : decode (xcode 238) 167 = .ok (.goto 4, 3) := by decide +kernel
theorem d238_170 : decode (xcode 238) 170 = .ok (.iconst 0, 1) := by decide +kernel
theorem d238_171 : decode (xcode 238) 171 = .ok (.iadd, 1) := by decide +kernel
theorem d238_172 : decode (xcode 238) 172 = .ok (.ireturn, 1) := by decide +kernel
noncomputable def f_M_pence_b171 (t0 : Int32) (t1 : Int32) (h : xH) : Option Int32 :=
  some (t1 + t0)
set_option maxHeartbeats 4000000 in
set_option maxRecDepth 100000 in
theorem f_M_pence_b171_ok {g : xG} {l : Launch} {d : Nat} {t0 : Int32} {t1 : Int32} {h : xH} {o : Int32} {R : Option xV} (hD : 3 ≤ d) (hf : f_M_pence_b171 t0 t1 h = some o) (K0 : ∀ (a : Int32), o = a → R = some (xi a)) : xEv g l d 238 171 [] [xi t0, xi t1] h R h := by
  unfold f_M_pence_b171 at hf
  refine xs_iadd d238_171 ?_
  obtain eR := K0 _ (Option.some.inj hf).symm
  subst eR
  exact xs_iret d238_172 rt238
noncomputable def f_M_pence_b155 (v3 : Int32) (v4 : Int32) (v5 : Int32) (v6 : Int32) (h : xH) : Option Int32 :=
  if ¬ v3 = 0 then (
  if v5 ≤ v6 then (
  f_M_pence_b171 (0 : Int32) (v4 / v3) h) else (
  f_M_pence_b171 (1 : Int32) (v4 / v3) h)) else none
set_option maxHeartbeats 4000000 in
set_option maxRecDepth 100000 in
theorem f_M_pence_b155_ok {g : xG} {l : Launch} {d : Nat} {v3 : Int32} {v4 : Int32} {v5 : Int32} {v6 : Int32} {h : xH} {o : Int32} {R : Option xV} (hD : 3 ≤ d) (hf : f_M_pence_b155 v3 v4 v5 v6 h = some o) (K0 : ∀ (a : Int32), o = a → R = some (xi a)) : xEv g l d 238 155 [(3, xi v3), (4, xi v4), (5, xi v5), (6, xi v6)] [] h R h := by
  unfold f_M_pence_b155 at hf
  refine xs_iload d238_155 rfl ?_
  refine xs_iload_n d238_157 rfl ?_
  obtain ⟨hb16, hf⟩ := lk_g hf
  refine xs_idiv d238_158 hb16 ?_
  refine xs_iload d238_159 rfl ?_
  refine xs_iload d238_161 rfl ?_
  rcases lk_if hf with ⟨hc17, hf⟩ | ⟨hc17, hf⟩
  · refine xs_icmp_ge (tgt := 170) d238_163 (by decide) (fun _ => ?_) (fun hn => absurd hc17 hn)
    refine xs_iconst (v := 0) d238_170 (by decide) ?_
    refine xs_pick [] rfl ?_
    exact f_M_pence_b171_ok hD hf K0
  · refine xs_icmp_ge (tgt := 170) d238_163 (by decide) (fun hp => absurd hp hc17) (fun _ => ?_)
    refine xs_iconst (v := 1) d238_166 (by decide) ?_
    refine xs_goto (tgt := 171) d238_167 (by decide) ?_
    refine xs_pick [] rfl ?_
    exact f_M_pence_b171_ok hD hf K0
noncomputable def f_M_pence_b149 (v1 : Int32) (v2 : Int32) (v3 : Int32) (v4 : Int32) (v5 : Int32) (v6 : Int32) (v7 : Int32) (h : xH) : Option ((Int32 × Int32 × Int32) ⊕ Int32) :=
  xlet (v7 + (1 : Int32)) fun v7_29 =>
  some (Sum.inl (v5, v6, v7_29))
set_option maxHeartbeats 4000000 in
set_option maxRecDepth 100000 in
theorem f_M_pence_b149_ok {g : xG} {l : Launch} {d : Nat} {v1 : Int32} {v2 : Int32} {v3 : Int32} {v4 : Int32} {v5 : Int32} {v6 : Int32} {v7 : Int32} {h : xH} {o : ((Int32 × Int32 × Int32) ⊕ Int32)} {R : Option xV} (hD : 3 ≤ d) (hf : f_M_pence_b149 v1 v2 v3 v4 v5 v6 v7 h = some o) (K1 : ∀ (w5 : Int32) (w6 : Int32) (w7 : Int32), o = Sum.inl (w5, w6, w7) → xEv g l d 238 64 [(0, xr 12 (some 0)), (1, xi v1), (2, xi v2), (3, xi v3), (4, xi v4), (5, xi w5), (6, xi w6), (7, xi w7)] [] h R h) (K0 : ∀ (a : Int32), o = Sum.inr (a) → R = some (xi a)) : xEv g l d 238 149 [(0, xr 12 (some 0)), (1, xi v1), (2, xi v2), (3, xi v3), (4, xi v4), (5, xi v5), (6, xi v6), (7, xi v7)] [] h R h := by
  unfold f_M_pence_b149 at hf
  obtain ⟨v7_29, ev7_29, hf⟩ := lk_let hf
  refine xe_iinc (v := v7_29) (b := 1) (ls2 := [(0, xr 12 (some 0)), (1, xi v1), (2, xi v2), (3, xi v3), (4, xi v4), (5, xi v5), (6, xi v6), (7, xi v7_29)]) d238_149 mx238 (by decide) rfl (by decide) ev7_29 rfl ?_
  refine xs_goto (tgt := 64) d238_152 (by decide) ?_
  exact K1 _ _ _ (Option.some.inj hf).symm
noncomputable def f_M_pence_b146 (v1 : Int32) (v2 : Int32) (v3 : Int32) (v4 : Int32) (v5 : Int32) (v7 : Int32) (t0 : Int32) (t1 : Int32) (h : xH) : Option ((Int32 × Int32 × Int32) ⊕ Int32) :=
  xlet (t1 + t0) fun v6_28 =>
  f_M_pence_b149 v1 v2 v3 v4 v5 v6_28 v7 h
set_option maxHeartbeats 4000000 in
set_option maxRecDepth 100000 in
theorem f_M_pence_b146_ok {g : xG} {l : Launch} {d : Nat} {v1 : Int32} {v2 : Int32} {v3 : Int32} {v4 : Int32} {v5 : Int32} {v7 : Int32} {t0 : Int32} {t1 : Int32} {h : xH} {o : ((Int32 × Int32 × Int32) ⊕ Int32)} {R : Option xV} (hD : 3 ≤ d) (hf : f_M_pence_b146 v1 v2 v3 v4 v5 v7 t0 t1 h = some o) (K1 : ∀ (w5 : Int32) (w6 : Int32) (w7 : Int32), o = Sum.inl (w5, w6, w7) → xEv g l d 238 64 [(0, xr 12 (some 0)), (1, xi v1), (2, xi v2), (3, xi v3), (4, xi v4), (5, xi w5), (6, xi w6), (7, xi w7)] [] h R h) (K0 : ∀ (a : Int32), o = Sum.inr (a) → R = some (xi a)) : xEv g l d 238 146 [(0, xr 12 (some 0)), (1, xi v1), (2, xi v2), (3, xi v3), (4, xi v4), (5, xi v5), (7, xi v7)] [xi t0, xi t1] h R h := by
  unfold f_M_pence_b146 at hf
  refine xs_iadd d238_146 ?_
  obtain ⟨v6_28, ev6_28, hf⟩ := lk_let hf
  refine xe_istore (v := v6_28) (ls2 := [(0, xr 12 (some 0)), (1, xi v1), (2, xi v2), (3, xi v3), (4, xi v4), (5, xi v5), (6, xi v6_28), (7, xi v7)]) d238_147 mx238 (by decide) ev6_28 rfl ?_
  exact f_M_pence_b149_ok hD hf K1 K0
noncomputable def f_M_pence_b141 (v1 : Int32) (v2 : Int32) (v3 : Int32) (v4 : Int32) (v5 : Int32) (v7 : Int32) (t0 : Int32) (h : xH) : Option ((Int32 × Int32 × Int32) ⊕ Int32) :=
  f_M_pence_b146 v1 v2 v3 v4 v5 v7 (1 : Int32) t0 h
set_option maxHeartbeats 4000000 in
set_option maxRecDepth 100000 in
theorem f_M_pence_b141_ok {g : xG} {l : Launch} {d : Nat} {v1 : Int32} {v2 : Int32} {v3 : Int32} {v4 : Int32} {v5 : Int32} {v7 : Int32} {t0 : Int32} {h : xH} {o : ((Int32 × Int32 × Int32) ⊕ Int32)} {R : Option xV} (hD : 3 ≤ d) (hf : f_M_pence_b141 v1 v2 v3 v4 v5 v7 t0 h = some o) (K1 : ∀ (w5 : Int32) (w6 : Int32) (w7 : Int32), o = Sum.inl (w5, w6, w7) → xEv g l d 238 64 [(0, xr 12 (some 0)), (1, xi v1), (2, xi v2), (3, xi v3), (4, xi v4), (5, xi w5), (6, xi w6), (7, xi w7)] [] h R h) (K0 : ∀ (a : Int32), o = Sum.inr (a) → R = some (xi a)) : xEv g l d 238 141 [(0, xr 12 (some 0)), (1, xi v1), (2, xi v2), (3, xi v3), (4, xi v4), (5, xi v5), (7, xi v7)] [xi t0] h R h := by
  unfold f_M_pence_b141 at hf
  refine xs_iconst (v := 1) d238_141 (by decide) ?_
  refine xs_goto (tgt := 146) d238_142 (by decide) ?_
  exact f_M_pence_b146_ok hD hf K1 K0
noncomputable def f_M_pence_b145 (v1 : Int32) (v2 : Int32) (v3 : Int32) (v4 : Int32) (v5 : Int32) (v7 : Int32) (t0 : Int32) (h : xH) : Option ((Int32 × Int32 × Int32) ⊕ Int32) :=
  f_M_pence_b146 v1 v2 v3 v4 v5 v7 (0 : Int32) t0 h
set_option maxHeartbeats 4000000 in
set_option maxRecDepth 100000 in
theorem f_M_pence_b145_ok {g : xG} {l : Launch} {d : Nat} {v1 : Int32} {v2 : Int32} {v3 : Int32} {v4 : Int32} {v5 : Int32} {v7 : Int32} {t0 : Int32} {h : xH} {o : ((Int32 × Int32 × Int32) ⊕ Int32)} {R : Option xV} (hD : 3 ≤ d) (hf : f_M_pence_b145 v1 v2 v3 v4 v5 v7 t0 h = some o) (K1 : ∀ (w5 : Int32) (w6 : Int32) (w7 : Int32), o = Sum.inl (w5, w6, w7) → xEv g l d 238 64 [(0, xr 12 (some 0)), (1, xi v1), (2, xi v2), (3, xi v3), (4, xi v4), (5, xi w5), (6, xi w6), (7, xi w7)] [] h R h) (K0 : ∀ (a : Int32), o = Sum.inr (a) → R = some (xi a)) : xEv g l d 238 145 [(0, xr 12 (some 0)), (1, xi v1), (2, xi v2), (3, xi v3), (4, xi v4), (5, xi v5), (7, xi v7)] [xi t0] h R h := by
  unfold f_M_pence_b145 at hf
  refine xs_iconst (v := 0) d238_145 (by decide) ?_
  exact f_M_pence_b146_ok hD hf K1 K0
noncomputable def f_M_pence_s64 (v1 : Int32) (v2 : Int32) (v3 : Int32) (v4 : Int32) (v5 : Int32) (v6 : Int32) (v7 : Int32) (h : xH) : Option ((Int32 × Int32 × Int32) ⊕ Int32) :=
  if (h.2.2.2.1 56 0 ((3 : Int32)).toNatClampNeg) ≤ v7 then (
  xup (f_M_pence_b155 v3 v4 v5 v6 h)) else (
  if xib ((12 : Int32) + v7) 101 then (
  if (h.2.2.2.1 56 0 ((12 : Int32) + v7).toNatClampNeg) = (1 : Int32) then (
  (f_M_deepOf v7 h).bind fun r20 =>
  xlet (v1 * r20) fun v8_22 =>
  if ¬ v3 = 0 then (
  xlet (v5 - (v8_22 / v3)) fun v5_24 =>
  if ¬ v3 = 0 then (
  if ¬ v3 = 0 then (
  if (v4 - v4 / v3 * v3) < (v8_22 - v8_22 / v3 * v3) then (
  f_M_pence_b141 v1 v2 v3 v4 v5_24 v7 v6 h) else (
  if ¬ v3 = 0 then (
  if ¬ v3 = 0 then (
  if (v8_22 - v8_22 / v3 * v3) = (v4 - v4 / v3 * v3) then (
  if v2 ≤ v7 then (
  f_M_pence_b145 v1 v2 v3 v4 v5_24 v7 v6 h) else (
  f_M_pence_b141 v1 v2 v3 v4 v5_24 v7 v6 h)) else (
  f_M_pence_b145 v1 v2 v3 v4 v5_24 v7 v6 h)) else none) else none)) else none) else none) else none) else (
  f_M_pence_b149 v1 v2 v3 v4 v5 v6 v7 h)) else none)
set_option maxHeartbeats 4000000 in
set_option maxRecDepth 100000 in
theorem f_M_pence_s64_ok {g : xG} {l : Launch} {d : Nat} {v1 : Int32} {v2 : Int32} {v3 : Int32} {v4 : Int32} {v5 : Int32} {v6 : Int32} {v7 : Int32} {h : xH} {o : ((Int32 × Int32 × Int32) ⊕ Int32)} {R : Option xV} (hD : 3 ≤ d) (hf : f_M_pence_s64 v1 v2 v3 v4 v5 v6 v7 h = some o) (K1 : ∀ (w5 : Int32) (w6 : Int32) (w7 : Int32), o = Sum.inl (w5, w6, w7) → xEv g l d 238 64 [(0, xr 12 (some 0)), (1, xi v1), (2, xi v2), (3, xi v3), (4, xi v4), (5, xi w5), (6, xi w6), (7, xi w7)] [] h R h) (K0 : ∀ (a : Int32), o = Sum.inr (a) → R = some (xi a)) : xEv g l d 238 64 [(0, xr 12 (some 0)), (1, xi v1), (2, xi v2), (3, xi v3), (4, xi v4), (5, xi v5), (6, xi v6), (7, xi v7)] [] h R h := by
  unfold f_M_pence_s64 at hf
  refine xs_iload d238_64 rfl ?_
  refine xs_aload_n d238_66 rfl ?_
  refine xe_getc (j := 0) d238_67 ky238 fl181 fk12_20 rfl ?_
  refine xs_iconst (v := 3) d238_70 (by decide) ?_
  refine xe_iald d238_71 (by decide) ak56 (show xib (3 : Int32) 101 by decide) ?_
  rcases lk_if hf with ⟨hc15, hf⟩ | ⟨hc15, hf⟩
  · refine xs_icmp_ge (tgt := 155) d238_72 (by decide) (fun _ => ?_) (fun hn => absurd hc15 hn)
    refine xs_pick [3, 4, 5, 6] rfl ?_
    obtain ⟨x0, hf, ex0⟩ := lk_up hf
    exact f_M_pence_b155_ok hD hf (fun u0 e => K0 u0 (ex0.trans (congrArg Sum.inr e)))
  · refine xs_icmp_ge (tgt := 155) d238_72 (by decide) (fun hp => absurd hp hc15) (fun _ => ?_)
    refine xs_aload_n d238_75 rfl ?_
    refine xe_getc (j := 0) d238_76 ky238 fl181 fk12_20 rfl ?_
    refine xs_bipush (v := 12) d238_79 (by decide) ?_
    refine xs_iload d238_81 rfl ?_
    refine xs_iadd d238_83 ?_
    obtain ⟨hin18, hf⟩ := lk_g hf
    refine xe_iald d238_84 (by decide) ak56 hin18 ?_
    refine xs_iconst (v := 1) d238_85 (by decide) ?_
    rcases lk_if hf with ⟨hc19, hf⟩ | ⟨hc19, hf⟩
    · refine xs_icmp_eq (tgt := 92) d238_86 (by decide) (fun _ => ?_) (fun hn => absurd hc19 hn)
      refine xs_iload_n d238_92 rfl ?_
      refine xs_aload_n d238_93 rfl ?_
      refine xs_iload d238_94 rfl ?_
      obtain ⟨r20, hc21, hf⟩ := lk_b hf
      refine xe_callv1 (as := [xi v7]) (st := [xi v1]) (h2 := h) (d2 := d - 1) d238_96 ky238 ml278 st237 (by decide) cn237 rfl na237 (Nat.le_of_ble_eq_true rfl) (by omega) (f_M_deepOf_ok (by omega) hc21) ?_
      refine xs_imul d238_99 ?_
      obtain ⟨v8_22, ev8_22, hf⟩ := lk_let hf
      refine xe_istore (v := v8_22) (ls2 := [(0, xr 12 (some 0)), (1, xi v1), (2, xi v2), (3, xi v3), (4, xi v4), (5, xi v5), (6, xi v6), (7, xi v7), (8, xi v8_22)]) d238_100 mx238 (by decide) ev8_22 rfl ?_
      refine xs_iload d238_102 rfl ?_
      refine xs_iload d238_104 rfl ?_
      refine xs_iload_n d238_106 rfl ?_
      obtain ⟨hb23, hf⟩ := lk_g hf
      refine xs_idiv d238_107 hb23 ?_
      refine xs_isub d238_108 ?_
      obtain ⟨v5_24, ev5_24, hf⟩ := lk_let hf
      refine xe_istore (v := v5_24) (ls2 := [(0, xr 12 (some 0)), (1, xi v1), (2, xi v2), (3, xi v3), (4, xi v4), (5, xi v5_24), (6, xi v6), (7, xi v7), (8, xi v8_22)]) d238_109 mx238 (by decide) ev5_24 rfl ?_
      refine xs_iload d238_111 rfl ?_
      refine xs_iload d238_113 rfl ?_
      refine xs_iload_n d238_115 rfl ?_
      obtain ⟨hb25, hf⟩ := lk_g hf
      refine xs_irem d238_116 hb25 ?_
      refine xs_iload d238_117 rfl ?_
      refine xs_iload_n d238_119 rfl ?_
      obtain ⟨hb26, hf⟩ := lk_g hf
      refine xs_irem d238_120 hb26 ?_
      rcases lk_if hf with ⟨hc27, hf⟩ | ⟨hc27, hf⟩
      · refine xs_icmp_gt (tgt := 141) d238_121 (by decide) (fun _ => ?_) (fun hn => absurd hc27 hn)
        refine xs_pick [0, 1, 2, 3, 4, 5, 7] rfl ?_
        exact f_M_pence_b141_ok hD hf K1 K0
      · refine xs_icmp_gt (tgt := 141) d238_121 (by decide) (fun hp => absurd hp hc27) (fun _ => ?_)
        refine xs_iload d238_124 rfl ?_
        refine xs_iload_n d238_126 rfl ?_
        obtain ⟨hb30, hf⟩ := lk_g hf
        refine xs_irem d238_127 hb30 ?_
        refine xs_iload d238_128 rfl ?_
        refine xs_iload_n d238_130 rfl ?_
        obtain ⟨hb31, hf⟩ := lk_g hf
        refine xs_irem d238_131 hb31 ?_
        rcases lk_if hf with ⟨hc32, hf⟩ | ⟨hc32, hf⟩
        · refine xs_icmp_ne (tgt := 145) d238_132 (by decide) (fun _ => ?_) (fun hn => absurd hc32 hn)
          refine xs_iload d238_135 rfl ?_
          refine xs_iload_n d238_137 rfl ?_
          rcases lk_if hf with ⟨hc33, hf⟩ | ⟨hc33, hf⟩
          · refine xs_icmp_ge (tgt := 145) d238_138 (by decide) (fun _ => ?_) (fun hn => absurd hc33 hn)
            refine xs_pick [0, 1, 2, 3, 4, 5, 7] rfl ?_
            exact f_M_pence_b145_ok hD hf K1 K0
          · refine xs_icmp_ge (tgt := 145) d238_138 (by decide) (fun hp => absurd hp hc33) (fun _ => ?_)
            refine xs_pick [0, 1, 2, 3, 4, 5, 7] rfl ?_
            exact f_M_pence_b141_ok hD hf K1 K0
        · refine xs_icmp_ne (tgt := 145) d238_132 (by decide) (fun hp => absurd hp hc32) (fun _ => ?_)
          refine xs_pick [0, 1, 2, 3, 4, 5, 7] rfl ?_
          exact f_M_pence_b145_ok hD hf K1 K0
    · refine xs_icmp_eq (tgt := 92) d238_86 (by decide) (fun hp => absurd hp hc19) (fun _ => ?_)
      refine xs_goto (tgt := 149) d238_89 (by decide) ?_
      exact f_M_pence_b149_ok hD hf K1 K0
noncomputable def f_M_pence_l64 (v1 : Int32) (v2 : Int32) (v3 : Int32) (v4 : Int32) (v5 : Int32) (v6 : Int32) (v7 : Int32) (h : xH) : Option Int32 :=
  whl (fun s => f_M_pence_s64 v1 v2 v3 v4 s.1 s.2.1 s.2.2 h) (v5, v6, v7)
theorem f_M_pence_l64_ok {g : xG} {l : Launch} {d : Nat} {v1 : Int32} {v2 : Int32} {v3 : Int32} {v4 : Int32} {v5 : Int32} {v6 : Int32} {v7 : Int32} {h : xH} {o : Int32} {R : Option xV} (hD : 3 ≤ d) (hf : f_M_pence_l64 v1 v2 v3 v4 v5 v6 v7 h = some o) (K0 : ∀ (a : Int32), o = a → R = some (xi a)) : xEv g l d 238 64 [(0, xr 12 (some 0)), (1, xi v1), (2, xi v2), (3, xi v3), (4, xi v4), (5, xi v5), (6, xi v6), (7, xi v7)] [] h R h := by
  obtain ⟨n, hn⟩ := whl_iff.mp hf
  clear hf
  induction n generalizing v5 v6 v7 with
  | zero => cases hn
  | succ n ih =>
    obtain ⟨o2, hs, hn⟩ := lk_b (show (f_M_pence_s64 v1 v2 v3 v4 v5 v6 v7 h).bind (fun o => Sum.elim (itn _ n) some o) = some o from hn)
    exact f_M_pence_s64_ok hD hs (fun u0 u1 u2 e => ih (by rw [e] at hn; exact hn)) (fun u0 e => K0 u0 (by rw [e] at hn; exact (Option.some.inj hn).symm))
noncomputable def f_M_pence_e (v1 : Int32) (v2 : Int32) (h : xH) : Option Int32 :=
  (f_M_isSorrow v2 h).bind fun r1 =>
  if r1 = (0 : Int32) then (
  some ((-1 : Int32))) else (
  (f_M_in ((v1).toInt64) (0 : Int64) (9999 : Int64) h).bind fun r4 =>
  if r4 = (0 : Int32) then (
  some ((-1 : Int32))) else (
  (f_M_letBe h).bind fun r7 =>
  if r7 = (0 : Int32) then (
  some ((0 : Int32))) else (
  if xib ((12 : Int32) + v2) 101 then (
  if (h.2.2.2.1 56 0 ((12 : Int32) + v2).toNatClampNeg) = (1 : Int32) then (
  (f_M_deepOf v2 h).bind fun r12 =>
  xlet (v1 * r12) fun v4_14 =>
  f_M_pence_l64 v1 v2 r7 v4_14 v1 (0 : Int32) (0 : Int32) h) else (
  some ((0 : Int32)))) else none)))
set_option maxHeartbeats 4000000 in
set_option maxRecDepth 100000 in
theorem f_M_pence_e_ok {g : xG} {l : Launch} {d : Nat} {v1 : Int32} {v2 : Int32} {h : xH} {o : Int32} {R : Option xV} (hD : 3 ≤ d) (hf : f_M_pence_e v1 v2 h = some o) (K0 : ∀ (a : Int32), o = a → R = some (xi a)) : xEv g l d 238 0 [(0, xr 12 (some 0)), (1, xi v1), (2, xi v2)] [] h R h := by
  unfold f_M_pence_e at hf
  refine xs_aload_n d238_0 rfl ?_
  refine xs_iload_n d238_1 rfl ?_
  obtain ⟨r1, hc2, hf⟩ := lk_b hf
  refine xe_callv1 (as := [xi v2]) (st := []) (h2 := h) (d2 := d - 1) d238_2 ky238 ml221 st185 (by decide) cn185 rfl na185 (Nat.le_of_ble_eq_true rfl) (by omega) (f_M_isSorrow_ok (by omega) hc2) ?_
  rcases lk_if hf with ⟨hc3, hf⟩ | ⟨hc3, hf⟩
  · refine xs_if_eq (tgt := 20) d238_5 (by decide) (fun _ => ?_) (fun hn => absurd hc3 hn)
    refine xs_iconst (v := -1) d238_20 (by decide) ?_
    obtain eR := K0 _ (Option.some.inj hf).symm
    subst eR
    exact xs_iret d238_21 rt238
  · refine xs_if_eq (tgt := 20) d238_5 (by decide) (fun hp => absurd hp hc3) (fun _ => ?_)
    refine xs_iload_n d238_8 rfl ?_
    refine xs_i2l d238_9 ?_
    refine xs_lconst (v := 0) d238_10 (by decide) ?_
    refine xs_ldc2 (v := 9999) d238_11 cl12_424 ?_
    obtain ⟨r4, hc5, hf⟩ := lk_b hf
    refine xe_calls1 (as := [xl ((v1).toInt64), xl (0 : Int64), xl (9999 : Int64)]) (st := []) (h2 := h) (d2 := d - 1) d238_14 ky238 ml196 st139 rfl na139 (Nat.le_of_ble_eq_true rfl) (by omega) (f_M_in_ok (by omega) hc5) ?_
    rcases lk_if hf with ⟨hc6, hf⟩ | ⟨hc6, hf⟩
    · refine xs_if_ne (tgt := 22) d238_17 (by decide) (fun _ => ?_) (fun hn => absurd hc6 hn)
      refine xs_iconst (v := -1) d238_20 (by decide) ?_
      obtain eR := K0 _ (Option.some.inj hf).symm
      subst eR
      exact xs_iret d238_21 rt238
    · refine xs_if_ne (tgt := 22) d238_17 (by decide) (fun hp => absurd hp hc6) (fun _ => ?_)
      refine xs_aload_n d238_22 rfl ?_
      obtain ⟨r7, hc8, hf⟩ := lk_b hf
      refine xe_callv1 (as := []) (st := []) (h2 := h) (d2 := d - 1) d238_23 ky238 ml238 st192 (by decide) cn192 rfl na192 (Nat.le_of_ble_eq_true rfl) (by omega) (f_M_letBe_ok (by omega) hc8) ?_
      refine xe_istore_n (v := r7) (ls2 := [(0, xr 12 (some 0)), (1, xi v1), (2, xi v2), (3, xi r7)]) d238_26 mx238 (by decide) rfl rfl ?_
      refine xs_iload_n d238_27 rfl ?_
      rcases lk_if hf with ⟨hc9, hf⟩ | ⟨hc9, hf⟩
      · refine xs_if_eq (tgt := 44) d238_28 (by decide) (fun _ => ?_) (fun hn => absurd hc9 hn)
        refine xs_iconst (v := 0) d238_44 (by decide) ?_
        obtain eR := K0 _ (Option.some.inj hf).symm
        subst eR
        exact xs_iret d238_45 rt238
      · refine xs_if_eq (tgt := 44) d238_28 (by decide) (fun hp => absurd hp hc9) (fun _ => ?_)
        refine xs_aload_n d238_31 rfl ?_
        refine xe_getc (j := 0) d238_32 ky238 fl181 fk12_20 rfl ?_
        refine xs_bipush (v := 12) d238_35 (by decide) ?_
        refine xs_iload_n d238_37 rfl ?_
        refine xs_iadd d238_38 ?_
        obtain ⟨hin10, hf⟩ := lk_g hf
        refine xe_iald d238_39 (by decide) ak56 hin10 ?_
        refine xs_iconst (v := 1) d238_40 (by decide) ?_
        rcases lk_if hf with ⟨hc11, hf⟩ | ⟨hc11, hf⟩
        · refine xs_icmp_eq (tgt := 46) d238_41 (by decide) (fun _ => ?_) (fun hn => absurd hc11 hn)
          refine xs_iload_n d238_46 rfl ?_
          refine xs_aload_n d238_47 rfl ?_
          refine xs_iload_n d238_48 rfl ?_
          obtain ⟨r12, hc13, hf⟩ := lk_b hf
          refine xe_callv1 (as := [xi v2]) (st := [xi v1]) (h2 := h) (d2 := d - 1) d238_49 ky238 ml278 st237 (by decide) cn237 rfl na237 (Nat.le_of_ble_eq_true rfl) (by omega) (f_M_deepOf_ok (by omega) hc13) ?_
          refine xs_imul d238_52 ?_
          obtain ⟨v4_14, ev4_14, hf⟩ := lk_let hf
          refine xe_istore (v := v4_14) (ls2 := [(0, xr 12 (some 0)), (1, xi v1), (2, xi v2), (3, xi r7), (4, xi v4_14)]) d238_53 mx238 (by decide) ev4_14 rfl ?_
          refine xs_iload_n d238_55 rfl ?_
          refine xe_istore (v := v1) (ls2 := [(0, xr 12 (some 0)), (1, xi v1), (2, xi v2), (3, xi r7), (4, xi v4_14), (5, xi v1)]) d238_56 mx238 (by decide) rfl rfl ?_
          refine xs_iconst (v := 0) d238_58 (by decide) ?_
          refine xe_istore (v := (0 : Int32)) (ls2 := [(0, xr 12 (some 0)), (1, xi v1), (2, xi v2), (3, xi r7), (4, xi v4_14), (5, xi v1), (6, xi (0 : Int32))]) d238_59 mx238 (by decide) rfl rfl ?_
          refine xs_iconst (v := 0) d238_61 (by decide) ?_
          refine xe_istore (v := (0 : Int32)) (ls2 := [(0, xr 12 (some 0)), (1, xi v1), (2, xi v2), (3, xi r7), (4, xi v4_14), (5, xi v1), (6, xi (0 : Int32)), (7, xi (0 : Int32))]) d238_62 mx238 (by decide) rfl rfl ?_
          exact f_M_pence_l64_ok hD hf K0
        · refine xs_icmp_eq (tgt := 46) d238_41 (by decide) (fun hp => absurd hp hc11) (fun _ => ?_)
          refine xs_iconst (v := 0) d238_44 (by decide) ?_
          obtain eR := K0 _ (Option.some.inj hf).symm
          subst eR
          exact xs_iret d238_45 rt238
noncomputable def f_M_pence (v1 : Int32) (v2 : Int32) (h : xH) : Option Int32 := f_M_pence_e v1 v2 h
theorem f_M_pence_ok {g : xG} {l : Launch} {d : Nat} {v1 : Int32} {v2 : Int32} {h : xH} {r : Int32} (hD : 3 ≤ d) (hf : f_M_pence v1 v2 h = some r) : xC g l d 238 [xr 12 (some 0), xi v1, xi v2] h (some (xi r)) h :=
  xC_of2 (by decide) mx238 (Nat.le_of_ble_eq_true rfl) (f_M_pence_e_ok hD hf (fun _ e => by rw [e]))
theorem d239_0 : decode (xcode 239) 0 = .ok (.iload_n 1, 1) := by decide +kernel
theorem d239_1 : decode (xcode 239) 1 = .ok (.iconst (-1), 1) := by decide +kernel
theorem d239_2 : decode (xcode 239) 2 = .ok (.if_icmp .ne 13, 3) := by decide +kernel
theorem d239_5 : decode (xcode 239) 5 = .ok (.aload_n 0, 1) := by decide +kernel
theorem d239_6 : decode (xcode 239) 6 = .ok (.getfield 39, 3) := by decide +kernel
theorem d239_9 : decode (xcode 239) 9 = .ok (.bipush 100, 2) := by decide +kernel
theorem d239_11 : decode (xcode 239) 11 = .ok (.iconst 0, 1) := by decide +kernel
theorem d239_12 : decode (xcode 239) 12 = .ok (.iastore, 1) := by decide +kernel
theorem d239_13 : decode (xcode 239) 13 = .ok (.iconst 0, 1) := by decide +kernel
theorem d239_14 : decode (xcode 239) 14 = .ok (.ireturn, 1) := by decide +kernel
theorem d239_15 : decode (xcode 239) 15 = .ok (.aload_n 0, 1) := by decide +kernel
theorem d239_16 : decode (xcode 239) 16 = .ok (.invokevirtual 349, 3) := by decide +kernel
theorem d239_19 : decode (xcode 239) 19 = .ok (.ifCond .eq 40, 3) := by decide +kernel
theorem d239_22 : decode (xcode 239) 22 = .ok (.iload_n 1, 1) := by decide +kernel
theorem d239_23 : decode (xcode 239) 23 = .ok (.i2l, 1) := by decide +kernel
theorem d239_24 : decode (xcode 239) 24 = .ok (.lconst 0, 1) := by decide +kernel
theorem d239_25 : decode (xcode 239) 25 = .ok (.ldc2_w 355, 3) := by decide +kernel
theorem d239_28 : decode (xcode 239) 28 = .ok (.invokestatic 124, 3) := by decide +kernel
theorem d239_31 : decode (xcode 239) 31 = .ok (.ifCond .eq 28, 3) := by decide +kernel
theorem d239_34 : decode (xcode 239) 34 = .ok (.iload_n 2, 1) := by decide +kernel
theorem d239_35 : decode (xcode 239) 35 = .ok (.iconst (-1), 1) := by decide +kernel
theorem d239_36 : decode (xcode 239) 36 = .ok (.if_icmp .eq 11, 3) := by decide +kernel
theorem d239_39 : decode (xcode 239) 39 = .ok (.aload_n 0, 1) := by decide +kernel
theorem d239_40 : decode (xcode 239) 40 = .ok (.iload_n 2, 1) := by decide +kernel
theorem d239_41 : decode (xcode 239) 41 = .ok (.invokevirtual 290, 3) := by decide +kernel
theorem d239_44 : decode (xcode 239) 44 = .ok (.ifCond .eq 15, 3) := by decide +kernel
theorem d239_47 : decode (xcode 239) 47 = .ok (.aload_n 0, 1) := by decide +kernel
theorem d239_48 : decode (xcode 239) 48 = .ok (.getfield 39, 3) := by decide +kernel
theorem d239_51 : decode (xcode 239) 51 = .ok (.bipush 100, 2) := by decide +kernel
theorem d239_53 : decode (xcode 239) 53 = .ok (.iaload, 1) := by decide +kernel
theorem d239_54 : decode (xcode 239) 54 = .ok (.bipush 10, 2) := by decide +kernel
theorem d239_56 : decode (xcode 239) 56 = .ok (.if_icmp .ne 6, 3) := by decide +kernel
theorem d239_59 : decode (xcode 239) 59 = .ok (.bipush (-2), 2) := by decide +kernel
theorem d239_61 : decode (xcode 239) 61 = .ok (.ireturn, 1) := by decide +kernel
theorem d239_62 : decode (xcode 239) 62 = .ok (.bipush 80, 2) := by decide +kernel
theorem d239_64 : decode (xcode 239) 64 = .ok (.iconst 2, 1) := by decide +kernel
theorem d239_65 : decode (xcode 239) 65 = .ok (.aload_n 0, 1) := by decide +kernel
theorem d239_66 : decode (xcode 239) 66 = .ok (.getfield 39, 3) := by decide +kernel
theorem d239_69 : decode (xcode 239) 69 = .ok (.bipush 100, 2) := by decide +kernel
theorem d239_71 : decode (xcode 239) 71 = .ok (.iaload, 1) := by decide +kernel
theorem d239_72 : decode (xcode 239) 72 = .ok (.imul, 1) := by decide +kernel
theorem d239_73 : decode (xcode 239) 73 = .ok (.iadd, 1) := by decide +kernel
theorem d239_74 : decode (xcode 239) 74 = .ok (.istore_n 3, 1) := by decide +kernel
theorem d239_75 : decode (xcode 239) 75 = .ok (.aload_n 0, 1) := by decide +kernel
theorem d239_76 : decode (xcode 239) 76 = .ok (.getfield 39, 3) := by decide +kernel
theorem d239_79 : decode (xcode 239) 79 = .ok (.iload_n 3, 1) := by decide +kernel
theorem d239_80 : decode (xcode 239) 80 = .ok (.iload_n 1, 1) := by decide +kernel
theorem d239_81 : decode (xcode 239) 81 = .ok (.iastore, 1) := by decide +kernel
theorem d239_82 : decode (xcode 239) 82 = .ok (.aload_n 0, 1) := by decide +kernel
theorem d239_83 : decode (xcode 239) 83 = .ok (.getfield 39, 3) := by decide +kernel
theorem d239_86 : decode (xcode 239) 86 = .ok (.iload_n 3, 1) := by decide +kernel
theorem d239_87 : decode (xcode 239) 87 = .ok (.iconst 1, 1) := by decide +kernel
theorem d239_88 : decode (xcode 239) 88 = .ok (.iadd, 1) := by decide +kernel
theorem d239_89 : decode (xcode 239) 89 = .ok (.iload_n 2, 1) := by decide +kernel
theorem d239_90 : decode (xcode 239) 90 = .ok (.iastore, 1) := by decide +kernel
theorem d239_91 : decode (xcode 239) 91 = .ok (.aload_n 0, 1) := by decide +kernel
theorem d239_92 : decode (xcode 239) 92 = .ok (.getfield 39, 3) := by decide +kernel
theorem d239_95 : decode (xcode 239) 95 = .ok (.bipush 100, 2) := by decide +kernel
theorem d239_97 : decode (xcode 239) 97 = .ok (.dup2, 1) := by decide +kernel
theorem d239_98 : decode (xcode 239) 98 = .ok (.iaload, 1) := by decide +kernel
theorem d239_99 : decode (xcode 239) 99 = .ok (.iconst 1, 1) := by decide +kernel
theorem d239_100 : decode (xcode 239) 100 = .ok (.iadd, 1) := by decide +kernel
theorem d239_101 : decode (xcode 239) 101 = .ok (.iastore, 1) := by decide +kernel
theorem d239_102 : decode (xcode 239) 102 = .ok (.aload_n 0, 1) := by decide +kernel
theorem d239_103 : decode (xcode 239) 103 = .ok (.getfield 39, 3) := by decide +kernel
theorem d239_106 : decode (xcode 239) 106 = .ok (.bipush 100, 2) := by decide +kernel
theorem d239_108 : decode (xcode 239) 108 = .ok (.iaload, 1) := by decide +kernel
theorem d239_109 : decode (xcode 239) 109 = .ok (.ireturn, 1) := by decide +kernel
noncomputable def f_M_note_b47 (v1 : Int32) (v2 : Int32) (h : xH) : Option (Int32 × xH) :=
  if (h.2.2.2.1 56 0 ((100 : Int32)).toNatClampNeg) = (10 : Int32) then (
  some (((-2 : Int32), h))) else (
  xlet ((80 : Int32) + ((2 : Int32) * (h.2.2.2.1 56 0 ((100 : Int32)).toNatClampNeg))) fun v3_11 =>
  if xib v3_11 101 then (
  xlet (xsA h 56 0 (upd (h.2.2.2.1 56 0) (v3_11).toNatClampNeg v1)) fun h13 =>
  if xib (v3_11 + (1 : Int32)) 101 then (
  xlet (xsA h13 56 0 (upd (h13.2.2.2.1 56 0) (v3_11 + (1 : Int32)).toNatClampNeg v2)) fun h15 =>
  xlet (xsA h15 56 0 (upd (h15.2.2.2.1 56 0) ((100 : Int32)).toNatClampNeg ((h15.2.2.2.1 56 0 ((100 : Int32)).toNatClampNeg) + (1 : Int32)))) fun h16 =>
  some ((h16.2.2.2.1 56 0 ((100 : Int32)).toNatClampNeg, h16))) else none) else none)
set_option maxHeartbeats 4000000 in
set_option maxRecDepth 100000 in
theorem f_M_note_b47_ok {g : xG} {l : Launch} {d : Nat} {v1 : Int32} {v2 : Int32} {h : xH} {o : (Int32 × xH)} {R : Option xV} {H' : xH} (hD : 1 ≤ d) (hf : f_M_note_b47 v1 v2 h = some o) (K0 : ∀ (a : Int32) (h1 : xH), o = (a, h1) → R = some (xi a) ∧ H' = h1) : xEv g l d 239 47 [(0, xr 12 (some 0)), (1, xi v1), (2, xi v2)] [] h R H' := by
  unfold f_M_note_b47 at hf
  refine xs_aload_n d239_47 rfl ?_
  refine xe_getc (j := 0) d239_48 ky239 fl181 fk12_20 rfl ?_
  refine xs_bipush (v := 100) d239_51 (by decide) ?_
  refine xe_iald d239_53 (by decide) ak56 (show xib (100 : Int32) 101 by decide) ?_
  refine xs_bipush (v := 10) d239_54 (by decide) ?_
  rcases lk_if hf with ⟨hc10, hf⟩ | ⟨hc10, hf⟩
  · refine xs_icmp_ne (tgt := 62) d239_56 (by decide) (fun _ => ?_) (fun hn => absurd hc10 hn)
    refine xs_bipush (v := -2) d239_59 (by decide) ?_
    obtain ⟨eR, eH⟩ := K0 _ _ (Option.some.inj hf).symm
    subst eR; subst eH
    exact xs_iret d239_61 rt239
  · refine xs_icmp_ne (tgt := 62) d239_56 (by decide) (fun hp => absurd hp hc10) (fun _ => ?_)
    refine xs_bipush (v := 80) d239_62 (by decide) ?_
    refine xs_iconst (v := 2) d239_64 (by decide) ?_
    refine xs_aload_n d239_65 rfl ?_
    refine xe_getc (j := 0) d239_66 ky239 fl181 fk12_20 rfl ?_
    refine xs_bipush (v := 100) d239_69 (by decide) ?_
    refine xe_iald d239_71 (by decide) ak56 (show xib (100 : Int32) 101 by decide) ?_
    refine xs_imul d239_72 ?_
    refine xs_iadd d239_73 ?_
    obtain ⟨v3_11, ev3_11, hf⟩ := lk_let hf
    refine xe_istore_n (v := v3_11) (ls2 := [(0, xr 12 (some 0)), (1, xi v1), (2, xi v2), (3, xi v3_11)]) d239_74 mx239 (by decide) ev3_11 rfl ?_
    refine xs_aload_n d239_75 rfl ?_
    refine xe_getc (j := 0) d239_76 ky239 fl181 fk12_20 rfl ?_
    refine xs_iload_n d239_79 rfl ?_
    refine xs_iload_n d239_80 rfl ?_
    obtain ⟨hin12, hf⟩ := lk_g hf
    obtain ⟨h13, eh13, hf⟩ := lk_let hf
    refine xe_iast d239_81 (by decide) ak56 hin12  eh13 ?_
    refine xs_aload_n d239_82 rfl ?_
    refine xe_getc (j := 0) d239_83 ky239 fl181 fk12_20 rfl ?_
    refine xs_iload_n d239_86 rfl ?_
    refine xs_iconst (v := 1) d239_87 (by decide) ?_
    refine xs_iadd d239_88 ?_
    refine xs_iload_n d239_89 rfl ?_
    obtain ⟨hin14, hf⟩ := lk_g hf
    obtain ⟨h15, eh15, hf⟩ := lk_let hf
    refine xe_iast d239_90 (by decide) ak56 hin14  eh15 ?_
    refine xs_aload_n d239_91 rfl ?_
    refine xe_getc (j := 0) d239_92 ky239 fl181 fk12_20 rfl ?_
    refine xs_bipush (v := 100) d239_95 (by decide) ?_
    refine xs_dup2 d239_97 rfl rfl ?_
    refine xe_iald d239_98 (by decide) ak56 (show xib (100 : Int32) 101 by decide) ?_
    refine xs_iconst (v := 1) d239_99 (by decide) ?_
    refine xs_iadd d239_100 ?_
    obtain ⟨h16, eh16, hf⟩ := lk_let hf
    refine xe_iast d239_101 (by decide) ak56 (show xib (100 : Int32) 101 by decide)  eh16 ?_
    refine xs_aload_n d239_102 rfl ?_
    refine xe_getc (j := 0) d239_103 ky239 fl181 fk12_20 rfl ?_
    refine xs_bipush (v := 100) d239_106 (by decide) ?_
    refine xe_iald d239_108 (by decide) ak56 (show xib (100 : Int32) 101 by decide) ?_
    obtain ⟨eR, eH⟩ := K0 _ _ (Option.some.inj hf).symm
    subst eR; subst eH
    exact xs_iret d239_109 rt239
noncomputable def f_M_note_e (v1 : Int32) (v2 : Int32) (h : xH) : Option (Int32 × xH) :=
  if v1 = (-1 : Int32) then (
  xlet (xsA h 56 0 (upd (h.2.2.2.1 56 0) ((100 : Int32)).toNatClampNeg (0 : Int32))) fun h2 =>
  some (((0 : Int32), h2))) else (
  (f_M_isTrug h).bind fun r3 =>
  if r3 = (0 : Int32) then (
  some (((-2 : Int32), h))) else (
  (f_M_in ((v1).toInt64) (0 : Int64) (60 : Int64) h).bind fun r6 =>
  if r6 = (0 : Int32) then (
  some (((-2 : Int32), h))) else (
  if v2 = (-1 : Int32) then (
  f_M_note_b47 v1 v2 h) else (
  (f_M_isSorrow v2 h).bind fun r17 =>
  if r17 = (0 : Int32) then (
  some (((-2 : Int32), h))) else (
  f_M_note_b47 v1 v2 h)))))
set_option maxHeartbeats 4000000 in
set_option maxRecDepth 100000 in
theorem f_M_note_e_ok {g : xG} {l : Launch} {d : Nat} {v1 : Int32} {v2 : Int32} {h : xH} {o : (Int32 × xH)} {R : Option xV} {H' : xH} (hD : 1 ≤ d) (hf : f_M_note_e v1 v2 h = some o) (K0 : ∀ (a : Int32) (h1 : xH), o = (a, h1) → R = some (xi a) ∧ H' = h1) : xEv g l d 239 0 [(0, xr 12 (some 0)), (1, xi v1), (2, xi v2)] [] h R H' := by
  unfold f_M_note_e at hf
  refine xs_iload_n d239_0 rfl ?_
  refine xs_iconst (v := -1) d239_1 (by decide) ?_
  rcases lk_if hf with ⟨hc1, hf⟩ | ⟨hc1, hf⟩
  · refine xs_icmp_ne (tgt := 15) d239_2 (by decide) (fun _ => ?_) (fun hn => absurd hc1 hn)
    refine xs_aload_n d239_5 rfl ?_
    refine xe_getc (j := 0) d239_6 ky239 fl181 fk12_20 rfl ?_
    refine xs_bipush (v := 100) d239_9 (by decide) ?_
    refine xs_iconst (v := 0) d239_11 (by decide) ?_
    obtain ⟨h2, eh2, hf⟩ := lk_let hf
    refine xe_iast d239_12 (by decide) ak56 (show xib (100 : Int32) 101 by decide)  eh2 ?_
    refine xs_iconst (v := 0) d239_13 (by decide) ?_
    obtain ⟨eR, eH⟩ := K0 _ _ (Option.some.inj hf).symm
    subst eR; subst eH
    exact xs_iret d239_14 rt239
  · refine xs_icmp_ne (tgt := 15) d239_2 (by decide) (fun hp => absurd hp hc1) (fun _ => ?_)
    refine xs_aload_n d239_15 rfl ?_
    obtain ⟨r3, hc4, hf⟩ := lk_b hf
    refine xe_callv1 (as := []) (st := []) (h2 := h) (d2 := d - 1) d239_16 ky239 ml225 st184 (by decide) cn184 rfl na184 (Nat.le_of_ble_eq_true rfl) (by omega) (f_M_isTrug_ok (by omega) hc4) ?_
    rcases lk_if hf with ⟨hc5, hf⟩ | ⟨hc5, hf⟩
    · refine xs_if_eq (tgt := 59) d239_19 (by decide) (fun _ => ?_) (fun hn => absurd hc5 hn)
      refine xs_bipush (v := -2) d239_59 (by decide) ?_
      obtain ⟨eR, eH⟩ := K0 _ _ (Option.some.inj hf).symm
      subst eR; subst eH
      exact xs_iret d239_61 rt239
    · refine xs_if_eq (tgt := 59) d239_19 (by decide) (fun hp => absurd hp hc5) (fun _ => ?_)
      refine xs_iload_n d239_22 rfl ?_
      refine xs_i2l d239_23 ?_
      refine xs_lconst (v := 0) d239_24 (by decide) ?_
      refine xs_ldc2 (v := 60) d239_25 cl12_355 ?_
      obtain ⟨r6, hc7, hf⟩ := lk_b hf
      refine xe_calls1 (as := [xl ((v1).toInt64), xl (0 : Int64), xl (60 : Int64)]) (st := []) (h2 := h) (d2 := d - 1) d239_28 ky239 ml196 st139 rfl na139 (Nat.le_of_ble_eq_true rfl) (by omega) (f_M_in_ok (by omega) hc7) ?_
      rcases lk_if hf with ⟨hc8, hf⟩ | ⟨hc8, hf⟩
      · refine xs_if_eq (tgt := 59) d239_31 (by decide) (fun _ => ?_) (fun hn => absurd hc8 hn)
        refine xs_bipush (v := -2) d239_59 (by decide) ?_
        obtain ⟨eR, eH⟩ := K0 _ _ (Option.some.inj hf).symm
        subst eR; subst eH
        exact xs_iret d239_61 rt239
      · refine xs_if_eq (tgt := 59) d239_31 (by decide) (fun hp => absurd hp hc8) (fun _ => ?_)
        refine xs_iload_n d239_34 rfl ?_
        refine xs_iconst (v := -1) d239_35 (by decide) ?_
        rcases lk_if hf with ⟨hc9, hf⟩ | ⟨hc9, hf⟩
        · refine xs_icmp_eq (tgt := 47) d239_36 (by decide) (fun _ => ?_) (fun hn => absurd hc9 hn)
          exact f_M_note_b47_ok hD hf K0
        · refine xs_icmp_eq (tgt := 47) d239_36 (by decide) (fun hp => absurd hp hc9) (fun _ => ?_)
          refine xs_aload_n d239_39 rfl ?_
          refine xs_iload_n d239_40 rfl ?_
          obtain ⟨r17, hc18, hf⟩ := lk_b hf
          refine xe_callv1 (as := [xi v2]) (st := []) (h2 := h) (d2 := d - 1) d239_41 ky239 ml221 st185 (by decide) cn185 rfl na185 (Nat.le_of_ble_eq_true rfl) (by omega) (f_M_isSorrow_ok (by omega) hc18) ?_
          rcases lk_if hf with ⟨hc19, hf⟩ | ⟨hc19, hf⟩
          · refine xs_if_eq (tgt := 59) d239_44 (by decide) (fun _ => ?_) (fun hn => absurd hc19 hn)
            refine xs_bipush (v := -2) d239_59 (by decide) ?_
            obtain ⟨eR, eH⟩ := K0 _ _ (Option.some.inj hf).symm
            subst eR; subst eH
            exact xs_iret d239_61 rt239
          · refine xs_if_eq (tgt := 59) d239_44 (by decide) (fun hp => absurd hp hc19) (fun _ => ?_)
            exact f_M_note_b47_ok hD hf K0
noncomputable def f_M_note (v1 : Int32) (v2 : Int32) (h : xH) : Option (Int32 × xH) := f_M_note_e v1 v2 h
theorem f_M_note_ok {g : xG} {l : Launch} {d : Nat} {v1 : Int32} {v2 : Int32} {h : xH} {r : Int32} {h1 : xH} (hD : 1 ≤ d) (hf : f_M_note v1 v2 h = some (r, h1)) : xC g l d 239 [xr 12 (some 0), xi v1, xi v2] h (some (xi r)) h1 :=
  xC_of2 (by decide) mx239 (Nat.le_of_ble_eq_true rfl) (f_M_note_e_ok hD hf (fun _ _ e => by cases e; exact ⟨rfl, rfl⟩))
theorem d240_0 : decode (xcode 240) 0 = .ok (.iconst 0, 1) := by decide +kernel
theorem d240_1 : decode (xcode 240) 1 = .ok (.istore_n 3, 1) := by decide +kernel
theorem d240_2 : decode (xcode 240) 2 = .ok (.iload_n 3, 1) := by decide +kernel
theorem d240_3 : decode (xcode 240) 3 = .ok (.iconst 2, 1) := by decide +kernel
theorem d240_4 : decode (xcode 240) 4 = .ok (.aload_n 0, 1) := by decide +kernel
theorem d240_5 : decode (xcode 240) 5 = .ok (.getfield 39, 3) := by decide +kernel
theorem d240_8 : decode (xcode 240) 8 = .ok (.bipush 100, 2) := by decide +kernel
theorem d240_10 : decode (xcode 240) 10 = .ok (.iaload, 1) := by decide +kernel
theorem d240_11 : decode (xcode 240) 11 = .ok (.imul, 1) := by decide +kernel
theorem d240_12 : decode (xcode 240) 12 = .ok (.if_icmp .ge 39, 3) := by decide +kernel
theorem d240_15 : decode (xcode 240) 15 = .ok (.aload_n 0, 1) := by decide +kernel
theorem d240_16 : decode (xcode 240) 16 = .ok (.getfield 39, 3) := by decide +kernel
theorem d240_19 : decode (xcode 240) 19 = .ok (.bipush 80, 2) := by decide +kernel
theorem d240_21 : decode (xcode 240) 21 = .ok (.iload_n 3, 1) := by decide +kernel
theorem d240_22 : decode (xcode 240) 22 = .ok (.iadd, 1) := by decide +kernel
theorem d240_23 : decode (xcode 240) 23 = .ok (.iaload, 1) := by decide +kernel
theorem d240_24 : decode (xcode 240) 24 = .ok (.iload_n 1, 1) := by decide +kernel
theorem d240_25 : decode (xcode 240) 25 = .ok (.if_icmp .ne 20, 3) := by decide +kernel
theorem d240_28 : decode (xcode 240) 28 = .ok (.iload_n 2, 1) := by decide +kernel
theorem d240_29 : decode (xcode 240) 29 = .ok (.aload_n 0, 1) := by decide +kernel
theorem d240_30 : decode (xcode 240) 30 = .ok (.getfield 39, 3) := by decide +kernel
theorem d240_33 : decode (xcode 240) 33 = .ok (.bipush 80, 2) := by decide +kernel
theorem d240_35 : decode (xcode 240) 35 = .ok (.iload_n 3, 1) := by decide +kernel
theorem d240_36 : decode (xcode 240) 36 = .ok (.iadd, 1) := by decide +kernel
theorem d240_37 : decode (xcode 240) 37 = .ok (.iconst 1, 1) := by decide +kernel
theorem d240_38 : decode (xcode 240) 38 = .ok (.iadd, 1) := by decide +kernel
theorem d240_39 : decode (xcode 240) 39 = .ok (.iaload, 1) := by decide +kernel
theorem d240_40 : decode (xcode 240) 40 = .ok (.if_icmp .eq 5, 3) := by decide +kernel
theorem d240_43 : decode (xcode 240) 43 = .ok (.iconst 0, 1) := by decide +kernel
theorem d240_44 : decode (xcode 240) 44 = .ok (.ireturn, 1) := by decide +kernel
theorem d240_45 : decode (xcode 240) 45 = .ok (.iinc 3 2, 3) := by decide +kernel
theorem d240_48 : decode (xcode 240) 48 = .ok (.goto (-46), 3) := by decide +kernel
theorem d240_51 : decode (xcode 240) 51 = .ok (.iconst 1, 1) := by decide +kernel
theorem d240_52 : decode (xcode 240) 52 = .ok (.ireturn, 1) := by decide +kernel
noncomputable def f_M_areNotesSo_b45 (v1 : Int32) (v2 : Int32) (v3 : Int32) (h : xH) : Option ((Int32) ⊕ Int32) :=
  xlet (v3 + (2 : Int32)) fun v3_6 =>
  some (Sum.inl v3_6)
set_option maxHeartbeats 4000000 in
set_option maxRecDepth 100000 in
theorem f_M_areNotesSo_b45_ok {g : xG} {l : Launch} {d : Nat} {v1 : Int32} {v2 : Int32} {v3 : Int32} {h : xH} {o : ((Int32) ⊕ Int32)} {R : Option xV} (hD : 0 ≤ d) (hf : f_M_areNotesSo_b45 v1 v2 v3 h = some o) (K1 : ∀ (w3 : Int32), o = Sum.inl w3 → xEv g l d 240 2 [(0, xr 12 (some 0)), (1, xi v1), (2, xi v2), (3, xi w3)] [] h R h) (K0 : ∀ (a : Int32), o = Sum.inr (a) → R = some (xi a)) : xEv g l d 240 45 [(0, xr 12 (some 0)), (1, xi v1), (2, xi v2), (3, xi v3)] [] h R h := by
  unfold f_M_areNotesSo_b45 at hf
  obtain ⟨v3_6, ev3_6, hf⟩ := lk_let hf
  refine xe_iinc (v := v3_6) (b := 2) (ls2 := [(0, xr 12 (some 0)), (1, xi v1), (2, xi v2), (3, xi v3_6)]) d240_45 mx240 (by decide) rfl (by decide) ev3_6 rfl ?_
  refine xs_goto (tgt := 2) d240_48 (by decide) ?_
  exact K1 _ (Option.some.inj hf).symm
noncomputable def f_M_areNotesSo_s2 (v1 : Int32) (v2 : Int32) (v3 : Int32) (h : xH) : Option ((Int32) ⊕ Int32) :=
  if ((2 : Int32) * (h.2.2.2.1 56 0 ((100 : Int32)).toNatClampNeg)) ≤ v3 then (
  some (Sum.inr ((1 : Int32)))) else (
  if xib ((80 : Int32) + v3) 101 then (
  if (h.2.2.2.1 56 0 ((80 : Int32) + v3).toNatClampNeg) = v1 then (
  if xib (((80 : Int32) + v3) + (1 : Int32)) 101 then (
  if v2 = (h.2.2.2.1 56 0 (((80 : Int32) + v3) + (1 : Int32)).toNatClampNeg) then (
  f_M_areNotesSo_b45 v1 v2 v3 h) else (
  some (Sum.inr ((0 : Int32))))) else none) else (
  f_M_areNotesSo_b45 v1 v2 v3 h)) else none)
set_option maxHeartbeats 4000000 in
set_option maxRecDepth 100000 in
theorem f_M_areNotesSo_s2_ok {g : xG} {l : Launch} {d : Nat} {v1 : Int32} {v2 : Int32} {v3 : Int32} {h : xH} {o : ((Int32) ⊕ Int32)} {R : Option xV} (hD : 0 ≤ d) (hf : f_M_areNotesSo_s2 v1 v2 v3 h = some o) (K1 : ∀ (w3 : Int32), o = Sum.inl w3 → xEv g l d 240 2 [(0, xr 12 (some 0)), (1, xi v1), (2, xi v2), (3, xi w3)] [] h R h) (K0 : ∀ (a : Int32), o = Sum.inr (a) → R = some (xi a)) : xEv g l d 240 2 [(0, xr 12 (some 0)), (1, xi v1), (2, xi v2), (3, xi v3)] [] h R h := by
  unfold f_M_areNotesSo_s2 at hf
  refine xs_iload_n d240_2 rfl ?_
  refine xs_iconst (v := 2) d240_3 (by decide) ?_
  refine xs_aload_n d240_4 rfl ?_
  refine xe_getc (j := 0) d240_5 ky240 fl181 fk12_20 rfl ?_
  refine xs_bipush (v := 100) d240_8 (by decide) ?_
  refine xe_iald d240_10 (by decide) ak56 (show xib (100 : Int32) 101 by decide) ?_
  refine xs_imul d240_11 ?_
  rcases lk_if hf with ⟨hc1, hf⟩ | ⟨hc1, hf⟩
  · refine xs_icmp_ge (tgt := 51) d240_12 (by decide) (fun _ => ?_) (fun hn => absurd hc1 hn)
    refine xs_iconst (v := 1) d240_51 (by decide) ?_
    obtain eR := K0 _ (Option.some.inj hf).symm
    subst eR
    exact xe_zret d240_52 (Or.inr rfl) rt240
  · refine xs_icmp_ge (tgt := 51) d240_12 (by decide) (fun hp => absurd hp hc1) (fun _ => ?_)
    refine xs_aload_n d240_15 rfl ?_
    refine xe_getc (j := 0) d240_16 ky240 fl181 fk12_20 rfl ?_
    refine xs_bipush (v := 80) d240_19 (by decide) ?_
    refine xs_iload_n d240_21 rfl ?_
    refine xs_iadd d240_22 ?_
    obtain ⟨hin2, hf⟩ := lk_g hf
    refine xe_iald d240_23 (by decide) ak56 hin2 ?_
    refine xs_iload_n d240_24 rfl ?_
    rcases lk_if hf with ⟨hc3, hf⟩ | ⟨hc3, hf⟩
    · refine xs_icmp_ne (tgt := 45) d240_25 (by decide) (fun _ => ?_) (fun hn => absurd hc3 hn)
      refine xs_iload_n d240_28 rfl ?_
      refine xs_aload_n d240_29 rfl ?_
      refine xe_getc (j := 0) d240_30 ky240 fl181 fk12_20 rfl ?_
      refine xs_bipush (v := 80) d240_33 (by decide) ?_
      refine xs_iload_n d240_35 rfl ?_
      refine xs_iadd d240_36 ?_
      refine xs_iconst (v := 1) d240_37 (by decide) ?_
      refine xs_iadd d240_38 ?_
      obtain ⟨hin4, hf⟩ := lk_g hf
      refine xe_iald d240_39 (by decide) ak56 hin4 ?_
      rcases lk_if hf with ⟨hc5, hf⟩ | ⟨hc5, hf⟩
      · refine xs_icmp_eq (tgt := 45) d240_40 (by decide) (fun _ => ?_) (fun hn => absurd hc5 hn)
        exact f_M_areNotesSo_b45_ok hD hf K1 K0
      · refine xs_icmp_eq (tgt := 45) d240_40 (by decide) (fun hp => absurd hp hc5) (fun _ => ?_)
        refine xs_iconst (v := 0) d240_43 (by decide) ?_
        obtain eR := K0 _ (Option.some.inj hf).symm
        subst eR
        exact xe_zret d240_44 (Or.inl rfl) rt240
    · refine xs_icmp_ne (tgt := 45) d240_25 (by decide) (fun hp => absurd hp hc3) (fun _ => ?_)
      exact f_M_areNotesSo_b45_ok hD hf K1 K0
noncomputable def f_M_areNotesSo_l2 (v1 : Int32) (v2 : Int32) (v3 : Int32) (h : xH) : Option Int32 :=
  whl (fun s => f_M_areNotesSo_s2 v1 v2 s h) v3
theorem f_M_areNotesSo_l2_ok {g : xG} {l : Launch} {d : Nat} {v1 : Int32} {v2 : Int32} {v3 : Int32} {h : xH} {o : Int32} {R : Option xV} (hD : 0 ≤ d) (hf : f_M_areNotesSo_l2 v1 v2 v3 h = some o) (K0 : ∀ (a : Int32), o = a → R = some (xi a)) : xEv g l d 240 2 [(0, xr 12 (some 0)), (1, xi v1), (2, xi v2), (3, xi v3)] [] h R h := by
  obtain ⟨n, hn⟩ := whl_iff.mp hf
  clear hf
  induction n generalizing v3 with
  | zero => cases hn
  | succ n ih =>
    obtain ⟨o2, hs, hn⟩ := lk_b (show (f_M_areNotesSo_s2 v1 v2 v3 h).bind (fun o => Sum.elim (itn _ n) some o) = some o from hn)
    exact f_M_areNotesSo_s2_ok hD hs (fun u0 e => ih (by rw [e] at hn; exact hn)) (fun u0 e => K0 u0 (by rw [e] at hn; exact (Option.some.inj hn).symm))
noncomputable def f_M_areNotesSo_e (v1 : Int32) (v2 : Int32) (h : xH) : Option Int32 :=
  f_M_areNotesSo_l2 v1 v2 (0 : Int32) h
set_option maxHeartbeats 4000000 in
set_option maxRecDepth 100000 in
theorem f_M_areNotesSo_e_ok {g : xG} {l : Launch} {d : Nat} {v1 : Int32} {v2 : Int32} {h : xH} {o : Int32} {R : Option xV} (hD : 0 ≤ d) (hf : f_M_areNotesSo_e v1 v2 h = some o) (K0 : ∀ (a : Int32), o = a → R = some (xi a)) : xEv g l d 240 0 [(0, xr 12 (some 0)), (1, xi v1), (2, xi v2)] [] h R h := by
  unfold f_M_areNotesSo_e at hf
  refine xs_iconst (v := 0) d240_0 (by decide) ?_
  refine xe_istore_n (v := (0 : Int32)) (ls2 := [(0, xr 12 (some 0)), (1, xi v1), (2, xi v2), (3, xi (0 : Int32))]) d240_1 mx240 (by decide) rfl rfl ?_
  exact f_M_areNotesSo_l2_ok hD hf K0
noncomputable def f_M_areNotesSo (v1 : Int32) (v2 : Int32) (h : xH) : Option Int32 := f_M_areNotesSo_e v1 v2 h
theorem f_M_areNotesSo_ok {g : xG} {l : Launch} {d : Nat} {v1 : Int32} {v2 : Int32} {h : xH} {r : Int32} (hD : 0 ≤ d) (hf : f_M_areNotesSo v1 v2 h = some r) : xC g l d 240 [xr 12 (some 0), xi v1, xi v2] h (some (xi r)) h :=
  xC_of2 (by decide) mx240 (Nat.le_of_ble_eq_true rfl) (f_M_areNotesSo_e_ok hD hf (fun _ e => by rw [e]))
theorem d241_0 : decode (xcode 241) 0 = .ok (.iconst 1, 1) := by decide +kernel
theorem d241_1 : decode (xcode 241) 1 = .ok (.istore_n 2, 1) := by decide +kernel
theorem d241_2 : decode (xcode 241) 2 = .ok (.iconst 0, 1) := by decide +kernel
theorem d241_3 : decode (xcode 241) 3 = .ok (.istore_n 3, 1) := by decide +kernel
theorem d241_4 : decode (xcode 241) 4 = .ok (.iload_n 3, 1) := by decide +kernel
theorem d241_5 : decode (xcode 241) 5 = .ok (.bipush 60, 2) := by decide +kernel
theorem d241_7 : decode (xcode 241) 7 = .ok (.if_icmp .gt 48, 3) := by decide +kernel
theorem d241_10 : decode (xcode 241) 10 = .ok (.aload_n 0, 1) := by decide +kernel
theorem d241_11 : decode (xcode 241) 11 = .ok (.invokevirtual 346, 3) := by decide +kernel
theorem d241_14 : decode (xcode 241) 14 = .ok (.istore 4, 2) := by decide +kernel
theorem d241_16 : decode (xcode 241) 16 = .ok (.iload_n 2, 1) := by decide +kernel
theorem d241_17 : decode (xcode 241) 17 = .ok (.ifCond .eq 17, 3) := by decide +kernel
theorem d241_20 : decode (xcode 241) 20 = .ok (.aload_n 0, 1) := by decide +kernel
theorem d241_21 : decode (xcode 241) 21 = .ok (.iload_n 3, 1) := by decide +kernel
theorem d241_22 : decode (xcode 241) 22 = .ok (.iload 4, 2) := by decide +kernel
theorem d241_24 : decode (xcode 241) 24 = .ok (.invokevirtual 429, 3) := by decide +kernel
theorem d241_27 : decode (xcode 241) 27 = .ok (.ifCond .eq 7, 3) := by decide +kernel
theorem d241_30 : decode (xcode 241) 30 = .ok (.iconst 1, 1) := by decide +kernel
theorem d241_31 : decode (xcode 241) 31 = .ok (.goto 4, 3) := by decide +kernel
theorem d241_34 : decode (xcode 241) 34 = .ok (.iconst 0, 1) := by decide +kernel
theorem d241_35 : decode (xcode 241) 35 = .ok (.istore_n 2, 1) := by decide +kernel
theorem d241_36 : decode (xcode 241) 36 = .ok (.aload_n 0, 1) := by decide +kernel
theorem d241_37 : decode (xcode 241) 37 = .ok (.getfield 71, 3) := by decide +kernel
theorem d241_40 : decode (xcode 241) 40 = .ok (.bipush 61, 2) := by decide +kernel
theorem d241_42 : decode (xcode 241) 42 = .ok (.iload_n 1, 1) := by decide +kernel
theorem d241_43 : decode (xcode 241) 43 = .ok (.imul, 1) := by decide +kernel
theorem d241_44 : decode (xcode 241) 44 = .ok (.iload_n 3, 1) := by decide +kernel
theorem d241_45 : decode (xcode 241) 45 = .ok (.iadd, 1) := by decide +kernel
theorem d241_46 : decode (xcode 241) 46 = .ok (.iload 4, 2) := by decide +kernel
theorem d241_48 : decode (xcode 241) 48 = .ok (.iastore, 1) := by decide +kernel
theorem d241_49 : decode (xcode 241) 49 = .ok (.iinc 3 1, 3) := by decide +kernel
theorem d241_52 : decode (xcode 241) 52 = .ok (.goto (-48), 3) := by decide +kernel
theorem d241_55 : decode (xcode 241) 55 = .ok (.iload_n 2, 1) := by decide +kernel
theorem d241_56 : decode (xcode 241) 56 = .ok (.ireturn, 1) := by decide +kernel
noncomputable def f_M_areAllSo_b35 (v1 : Int32) (v3 : Int32) (v4 : Int32) (t0 : Int32) (h : xH) : Option ((Int32 × Int32 × xH) ⊕ (Int32 × xH)) :=
  if xib (((61 : Int32) * v1) + v3) 427 then (
  xlet (xsA h 65 0 (upd (h.2.2.2.1 65 0) (((61 : Int32) * v1) + v3).toNatClampNeg v4)) fun h8 =>
  xlet (v3 + (1 : Int32)) fun v3_9 =>
  some (Sum.inl (t0, v3_9, h8))) else none
set_option maxHeartbeats 4000000 in
set_option maxRecDepth 100000 in
theorem f_M_areAllSo_b35_ok {g : xG} {l : Launch} {d : Nat} {v1 : Int32} {v3 : Int32} {v4 : Int32} {t0 : Int32} {h : xH} {o : ((Int32 × Int32 × xH) ⊕ (Int32 × xH))} {R : Option xV} {H' : xH} (hD : 8 ≤ d) (hf : f_M_areAllSo_b35 v1 v3 v4 t0 h = some o) (K1 : ∀ (w2 : Int32) (w3 : Int32) (h1 : xH), o = Sum.inl (w2, w3, h1) → xEv g l d 241 4 [(0, xr 12 (some 0)), (1, xi v1), (2, xi w2), (3, xi w3)] [] h1 R H') (K0 : ∀ (a : Int32) (h1 : xH), o = Sum.inr ((a, h1)) → R = some (xi a) ∧ H' = h1) : xEv g l d 241 35 [(0, xr 12 (some 0)), (1, xi v1), (3, xi v3), (4, xi v4)] [xi t0] h R H' := by
  unfold f_M_areAllSo_b35 at hf
  refine xe_istore_n (v := t0) (ls2 := [(0, xr 12 (some 0)), (1, xi v1), (2, xi t0), (3, xi v3), (4, xi v4)]) d241_35 mx241 (by decide) rfl rfl ?_
  refine xs_aload_n d241_36 rfl ?_
  refine xe_getc (j := 0) d241_37 ky241 fl196 fk12_35 rfl ?_
  refine xs_bipush (v := 61) d241_40 (by decide) ?_
  refine xs_iload_n d241_42 rfl ?_
  refine xs_imul d241_43 ?_
  refine xs_iload_n d241_44 rfl ?_
  refine xs_iadd d241_45 ?_
  refine xs_iload d241_46 rfl ?_
  obtain ⟨hin7, hf⟩ := lk_g hf
  obtain ⟨h8, eh8, hf⟩ := lk_let hf
  refine xe_iast d241_48 (by decide) ak65 hin7  eh8 ?_
  obtain ⟨v3_9, ev3_9, hf⟩ := lk_let hf
  refine xe_iinc (v := v3_9) (b := 1) (ls2 := [(0, xr 12 (some 0)), (1, xi v1), (2, xi t0), (3, xi v3_9), (4, xi v4)]) d241_49 mx241 (by decide) rfl (by decide) ev3_9 rfl ?_
  refine xs_goto (tgt := 4) d241_52 (by decide) ?_
  refine xs_pick [0, 1, 2, 3] rfl ?_
  exact K1 _ _ _ (Option.some.inj hf).symm
noncomputable def f_M_areAllSo_b34 (v1 : Int32) (v3 : Int32) (v4 : Int32) (h : xH) : Option ((Int32 × Int32 × xH) ⊕ (Int32 × xH)) :=
  f_M_areAllSo_b35 v1 v3 v4 (0 : Int32) h
set_option maxHeartbeats 4000000 in
set_option maxRecDepth 100000 in
theorem f_M_areAllSo_b34_ok {g : xG} {l : Launch} {d : Nat} {v1 : Int32} {v3 : Int32} {v4 : Int32} {h : xH} {o : ((Int32 × Int32 × xH) ⊕ (Int32 × xH))} {R : Option xV} {H' : xH} (hD : 8 ≤ d) (hf : f_M_areAllSo_b34 v1 v3 v4 h = some o) (K1 : ∀ (w2 : Int32) (w3 : Int32) (h1 : xH), o = Sum.inl (w2, w3, h1) → xEv g l d 241 4 [(0, xr 12 (some 0)), (1, xi v1), (2, xi w2), (3, xi w3)] [] h1 R H') (K0 : ∀ (a : Int32) (h1 : xH), o = Sum.inr ((a, h1)) → R = some (xi a) ∧ H' = h1) : xEv g l d 241 34 [(0, xr 12 (some 0)), (1, xi v1), (3, xi v3), (4, xi v4)] [] h R H' := by
  unfold f_M_areAllSo_b34 at hf
  refine xs_iconst (v := 0) d241_34 (by decide) ?_
  exact f_M_areAllSo_b35_ok hD hf K1 K0
noncomputable def f_M_areAllSo_s4 (v1 : Int32) (v2 : Int32) (v3 : Int32) (h : xH) : Option ((Int32 × Int32 × xH) ⊕ (Int32 × xH)) :=
  if (60 : Int32) < v3 then (
  if v2 = 0 ∨ v2 = 1 then (
  some (Sum.inr ((v2, h)))) else none) else (
  (f_M_passes h).bind fun q5 =>
  if v2 = (0 : Int32) then (
  f_M_areAllSo_b34 v1 v3 q5.1 q5.2) else (
  (f_M_areNotesSo v3 q5.1 q5.2).bind fun r10 =>
  if r10 = (0 : Int32) then (
  f_M_areAllSo_b34 v1 v3 q5.1 q5.2) else (
  f_M_areAllSo_b35 v1 v3 q5.1 (1 : Int32) q5.2)))
set_option maxHeartbeats 4000000 in
set_option maxRecDepth 100000 in
theorem f_M_areAllSo_s4_ok {g : xG} {l : Launch} {d : Nat} {v1 : Int32} {v2 : Int32} {v3 : Int32} {h : xH} {o : ((Int32 × Int32 × xH) ⊕ (Int32 × xH))} {R : Option xV} {H' : xH} (hD : 8 ≤ d) (hf : f_M_areAllSo_s4 v1 v2 v3 h = some o) (K1 : ∀ (w2 : Int32) (w3 : Int32) (h1 : xH), o = Sum.inl (w2, w3, h1) → xEv g l d 241 4 [(0, xr 12 (some 0)), (1, xi v1), (2, xi w2), (3, xi w3)] [] h1 R H') (K0 : ∀ (a : Int32) (h1 : xH), o = Sum.inr ((a, h1)) → R = some (xi a) ∧ H' = h1) : xEv g l d 241 4 [(0, xr 12 (some 0)), (1, xi v1), (2, xi v2), (3, xi v3)] [] h R H' := by
  unfold f_M_areAllSo_s4 at hf
  refine xs_iload_n d241_4 rfl ?_
  refine xs_bipush (v := 60) d241_5 (by decide) ?_
  rcases lk_if hf with ⟨hc1, hf⟩ | ⟨hc1, hf⟩
  · refine xs_icmp_gt (tgt := 55) d241_7 (by decide) (fun _ => ?_) (fun hn => absurd hc1 hn)
    refine xs_iload_n d241_55 rfl ?_
    obtain ⟨hz2, hf⟩ := lk_g hf
    obtain ⟨eR, eH⟩ := K0 _ _ (Option.some.inj hf).symm
    subst eR; subst eH
    exact xe_zret d241_56 hz2 rt241
  · refine xs_icmp_gt (tgt := 55) d241_7 (by decide) (fun hp => absurd hp hc1) (fun _ => ?_)
    refine xs_aload_n d241_10 rfl ?_
    obtain ⟨q5, hc4, hf⟩ := lk_b hf
    refine xe_callv1 (as := []) (st := []) (h2 := q5.2) (d2 := d - 1) d241_11 ky241 ml227 st203 (by decide) cn203 rfl na203 (Nat.le_of_ble_eq_true rfl) (by omega) (f_M_passes_ok (by omega) hc4) ?_
    refine xe_istore (v := q5.1) (ls2 := [(0, xr 12 (some 0)), (1, xi v1), (2, xi v2), (3, xi v3), (4, xi q5.1)]) d241_14 mx241 (by decide) rfl rfl ?_
    refine xs_iload_n d241_16 rfl ?_
    rcases lk_if hf with ⟨hc6, hf⟩ | ⟨hc6, hf⟩
    · refine xs_if_eq (tgt := 34) d241_17 (by decide) (fun _ => ?_) (fun hn => absurd hc6 hn)
      refine xs_pick [0, 1, 3, 4] rfl ?_
      exact f_M_areAllSo_b34_ok hD hf K1 K0
    · refine xs_if_eq (tgt := 34) d241_17 (by decide) (fun hp => absurd hp hc6) (fun _ => ?_)
      refine xs_aload_n d241_20 rfl ?_
      refine xs_iload_n d241_21 rfl ?_
      refine xs_iload d241_22 rfl ?_
      obtain ⟨r10, hc11, hf⟩ := lk_b hf
      refine xe_callv1 (as := [xi v3, xi q5.1]) (st := []) (h2 := q5.2) (d2 := d - 1) d241_24 ky241 ml283 st240 (by decide) cn240 rfl na240 (Nat.le_of_ble_eq_true rfl) (by omega) (f_M_areNotesSo_ok (by omega) hc11) ?_
      rcases lk_if hf with ⟨hc12, hf⟩ | ⟨hc12, hf⟩
      · refine xs_if_eq (tgt := 34) d241_27 (by decide) (fun _ => ?_) (fun hn => absurd hc12 hn)
        refine xs_pick [0, 1, 3, 4] rfl ?_
        exact f_M_areAllSo_b34_ok hD hf K1 K0
      · refine xs_if_eq (tgt := 34) d241_27 (by decide) (fun hp => absurd hp hc12) (fun _ => ?_)
        refine xs_iconst (v := 1) d241_30 (by decide) ?_
        refine xs_goto (tgt := 35) d241_31 (by decide) ?_
        refine xs_pick [0, 1, 3, 4] rfl ?_
        exact f_M_areAllSo_b35_ok hD hf K1 K0
noncomputable def f_M_areAllSo_l4 (v1 : Int32) (v2 : Int32) (v3 : Int32) (h : xH) : Option (Int32 × xH) :=
  whl (fun s => f_M_areAllSo_s4 v1 s.1 s.2.1 s.2.2) (v2, v3, h)
theorem f_M_areAllSo_l4_ok {g : xG} {l : Launch} {d : Nat} {v1 : Int32} {v2 : Int32} {v3 : Int32} {h : xH} {o : (Int32 × xH)} {R : Option xV} {H' : xH} (hD : 8 ≤ d) (hf : f_M_areAllSo_l4 v1 v2 v3 h = some o) (K0 : ∀ (a : Int32) (h1 : xH), o = (a, h1) → R = some (xi a) ∧ H' = h1) : xEv g l d 241 4 [(0, xr 12 (some 0)), (1, xi v1), (2, xi v2), (3, xi v3)] [] h R H' := by
  obtain ⟨n, hn⟩ := whl_iff.mp hf
  clear hf
  induction n generalizing v2 v3 h with
  | zero => cases hn
  | succ n ih =>
    obtain ⟨o2, hs, hn⟩ := lk_b (show (f_M_areAllSo_s4 v1 v2 v3 h).bind (fun o => Sum.elim (itn _ n) some o) = some o from hn)
    exact f_M_areAllSo_s4_ok hD hs (fun u0 u1 u2 e => ih (by rw [e] at hn; exact hn)) (fun u0 u1 e => K0 u0 u1 (by rw [e] at hn; exact (Option.some.inj hn).symm))
noncomputable def f_M_areAllSo_e (v1 : Int32) (h : xH) : Option (Int32 × xH) :=
  f_M_areAllSo_l4 v1 (1 : Int32) (0 : Int32) h
set_option maxHeartbeats 4000000 in
set_option maxRecDepth 100000 in
theorem f_M_areAllSo_e_ok {g : xG} {l : Launch} {d : Nat} {v1 : Int32} {h : xH} {o : (Int32 × xH)} {R : Option xV} {H' : xH} (hD : 8 ≤ d) (hf : f_M_areAllSo_e v1 h = some o) (K0 : ∀ (a : Int32) (h1 : xH), o = (a, h1) → R = some (xi a) ∧ H' = h1) : xEv g l d 241 0 [(0, xr 12 (some 0)), (1, xi v1)] [] h R H' := by
  unfold f_M_areAllSo_e at hf
  refine xs_iconst (v := 1) d241_0 (by decide) ?_
  refine xe_istore_n (v := (1 : Int32)) (ls2 := [(0, xr 12 (some 0)), (1, xi v1), (2, xi (1 : Int32))]) d241_1 mx241 (by decide) rfl rfl ?_
  refine xs_iconst (v := 0) d241_2 (by decide) ?_
  refine xe_istore_n (v := (0 : Int32)) (ls2 := [(0, xr 12 (some 0)), (1, xi v1), (2, xi (1 : Int32)), (3, xi (0 : Int32))]) d241_3 mx241 (by decide) rfl rfl ?_
  exact f_M_areAllSo_l4_ok hD hf K0
noncomputable def f_M_areAllSo (v1 : Int32) (h : xH) : Option (Int32 × xH) := f_M_areAllSo_e v1 h
theorem f_M_areAllSo_ok {g : xG} {l : Launch} {d : Nat} {v1 : Int32} {h : xH} {r : Int32} {h1 : xH} (hD : 8 ≤ d) (hf : f_M_areAllSo v1 h = some (r, h1)) : xC g l d 241 [xr 12 (some 0), xi v1] h (some (xi r)) h1 :=
  xC_of2 (by decide) mx241 (Nat.le_of_ble_eq_true rfl) (f_M_areAllSo_e_ok hD hf (fun _ _ e => by cases e; exact ⟨rfl, rfl⟩))
theorem d242_0 : decode (xcode 242) 0 = .ok (.aload_n 0, 1) := by decide +kernel
theorem d242_1 : decode (xcode 242) 1 = .ok (.getfield 42, 3) := by decide +kernel
theorem d242_4 : decode (xcode 242) 4 = .ok (.istore_n 1, 1) := by decide +kernel
theorem d242_5 : decode (xcode 242) 5 = .ok (.aload_n 0, 1) := by decide +kernel
theorem d242_6 : decode (xcode 242) 6 = .ok (.invokevirtual 363, 3) := by decide +kernel
theorem d242_9 : decode (xcode 242) 9 = .ok (.iconst 0, 1) := by decide +kernel
theorem d242_10 : decode (xcode 242) 10 = .ok (.istore_n 2, 1) := by decide +kernel
theorem d242_11 : decode (xcode 242) 11 = .ok (.iload_n 2, 1) := by decide +kernel
theorem d242_12 : decode (xcode 242) 12 = .ok (.aload_n 0, 1) := by decide +kernel
theorem d242_13 : decode (xcode 242) 13 = .ok (.getfield 263, 3) := by decide +kernel
theorem d242_16 : decode (xcode 242) 16 = .ok (.if_icmp .gt 31, 3) := by decide +kernel
theorem d242_19 : decode (xcode 242) 19 = .ok (.aload_n 0, 1) := by decide +kernel
theorem d242_20 : decode (xcode 242) 20 = .ok (.iload_n 2, 1) := by decide +kernel
theorem d242_21 : decode (xcode 242) 21 = .ok (.iconst 1, 1) := by decide +kernel
theorem d242_22 : decode (xcode 242) 22 = .ok (.isub, 1) := by decide +kernel
theorem d242_23 : decode (xcode 242) 23 = .ok (.putfield 42, 3) := by decide +kernel
theorem d242_26 : decode (xcode 242) 26 = .ok (.aload_n 0, 1) := by decide +kernel
theorem d242_27 : decode (xcode 242) 27 = .ok (.invokevirtual 269, 3) := by decide +kernel
theorem d242_30 : decode (xcode 242) 30 = .ok (.aload_n 0, 1) := by decide +kernel
theorem d242_31 : decode (xcode 242) 31 = .ok (.getfield 67, 3) := by decide +kernel
theorem d242_34 : decode (xcode 242) 34 = .ok (.iload_n 2, 1) := by decide +kernel
theorem d242_35 : decode (xcode 242) 35 = .ok (.aload_n 0, 1) := by decide +kernel
theorem d242_36 : decode (xcode 242) 36 = .ok (.iload_n 2, 1) := by decide +kernel
theorem d242_37 : decode (xcode 242) 37 = .ok (.invokevirtual 432, 3) := by decide +kernel
theorem d242_40 : decode (xcode 242) 40 = .ok (.bastore, 1) := by decide +kernel
theorem d242_41 : decode (xcode 242) 41 = .ok (.iinc 2 1, 3) := by decide +kernel
theorem d242_44 : decode (xcode 242) 44 = .ok (.goto (-33), 3) := by decide +kernel
theorem d242_47 : decode (xcode 242) 47 = .ok (.aload_n 0, 1) := by decide +kernel
theorem d242_48 : decode (xcode 242) 48 = .ok (.iload_n 1, 1) := by decide +kernel
theorem d242_49 : decode (xcode 242) 49 = .ok (.putfield 42, 3) := by decide +kernel
theorem d242_52 : decode (xcode 242) 52 = .ok (.aload_n 0, 1) := by decide +kernel
theorem d242_53 : decode (xcode 242) 53 = .ok (.invokevirtual 369, 3) := by decide +kernel
theorem d242_56 : decode (xcode 242) 56 = .ok (.return_, 1) := by decide +kernel
noncomputable def f_M_fillsFits_b47 (v1 : Int32) (h : xH) : Option xH :=
  xlet (xsI h 12 21 0 v1) fun h6 =>
  (f_M_laysBack h6).bind fun h9 =>
  some (h9)
set_option maxHeartbeats 4000000 in
set_option maxRecDepth 100000 in
theorem f_M_fillsFits_b47_ok {g : xG} {l : Launch} {d : Nat} {v1 : Int32} {h : xH} {o : xH} {R : Option xV} {H' : xH} (hD : 9 ≤ d) (hf : f_M_fillsFits_b47 v1 h = some o) (K0 : ∀ (h1 : xH), o = h1 → R = none ∧ H' = h1) : xEv g l d 242 47 [(0, xr 12 (some 0)), (1, xi v1)] [] h R H' := by
  unfold f_M_fillsFits_b47 at hf
  refine xs_aload_n d242_47 rfl ?_
  refine xs_iload_n d242_48 rfl ?_
  obtain ⟨h6, eh6, hf⟩ := lk_let hf
  refine xe_puti d242_49 ky242 fl182 fk12_21 ft12_21 eh6 ?_
  refine xs_aload_n d242_52 rfl ?_
  obtain ⟨h9, hc8, hf⟩ := lk_b hf
  refine xe_callv0 (as := []) (st := []) (h2 := h9) (d2 := d - 1) d242_53 ky242 ml254 st213 (by decide) cn213 rfl na213 (Nat.le_of_ble_eq_true rfl) (by omega) (f_M_laysBack_ok (by omega) hc8) ?_
  obtain ⟨eR, eH⟩ := K0 _ (Option.some.inj hf).symm
  subst eR; subst eH
  exact xs_vret d242_56 rt242
noncomputable def f_M_fillsFits_s11 (v1 : Int32) (v2 : Int32) (h : xH) : Option ((Int32 × xH) ⊕ xH) :=
  if (h.1 12 2 0) < v2 then (
  xup (f_M_fillsFits_b47 v1 h)) else (
  xlet (xsI h 12 21 0 (v2 - (1 : Int32))) fun h10 =>
  (f_M_begins h10).bind fun h13 =>
  (f_M_areAllSo v2 h13).bind fun q16 =>
  if xib v2 7 then (
  if q16.1 = 0 ∨ q16.1 = 1 then (
  xlet (xsA q16.2 64 0 (upd (q16.2.2.2.2.1 64 0) (v2).toNatClampNeg q16.1)) fun h18 =>
  xlet (v2 + (1 : Int32)) fun v2_20 =>
  some (Sum.inl (v2_20, h18))) else none) else none)
set_option maxHeartbeats 4000000 in
set_option maxRecDepth 100000 in
theorem f_M_fillsFits_s11_ok {g : xG} {l : Launch} {d : Nat} {v1 : Int32} {v2 : Int32} {h : xH} {o : ((Int32 × xH) ⊕ xH)} {R : Option xV} {H' : xH} (hD : 9 ≤ d) (hf : f_M_fillsFits_s11 v1 v2 h = some o) (K1 : ∀ (w2 : Int32) (h1 : xH), o = Sum.inl (w2, h1) → xEv g l d 242 11 [(0, xr 12 (some 0)), (1, xi v1), (2, xi w2)] [] h1 R H') (K0 : ∀ (h1 : xH), o = Sum.inr (h1) → R = none ∧ H' = h1) : xEv g l d 242 11 [(0, xr 12 (some 0)), (1, xi v1), (2, xi v2)] [] h R H' := by
  unfold f_M_fillsFits_s11 at hf
  refine xs_iload_n d242_11 rfl ?_
  refine xs_aload_n d242_12 rfl ?_
  refine xe_geti d242_13 ky242 fl163 fk12_2 ?_
  rcases lk_if hf with ⟨hc5, hf⟩ | ⟨hc5, hf⟩
  · refine xs_icmp_gt (tgt := 47) d242_16 (by decide) (fun _ => ?_) (fun hn => absurd hc5 hn)
    refine xs_pick [0, 1] rfl ?_
    obtain ⟨x0, hf, ex0⟩ := lk_up hf
    exact f_M_fillsFits_b47_ok hD hf (fun u0 e => K0 u0 (ex0.trans (congrArg Sum.inr e)))
  · refine xs_icmp_gt (tgt := 47) d242_16 (by decide) (fun hp => absurd hp hc5) (fun _ => ?_)
    refine xs_aload_n d242_19 rfl ?_
    refine xs_iload_n d242_20 rfl ?_
    refine xs_iconst (v := 1) d242_21 (by decide) ?_
    refine xs_isub d242_22 ?_
    obtain ⟨h10, eh10, hf⟩ := lk_let hf
    refine xe_puti d242_23 ky242 fl182 fk12_21 ft12_21 eh10 ?_
    refine xs_aload_n d242_26 rfl ?_
    obtain ⟨h13, hc12, hf⟩ := lk_b hf
    refine xe_callv0 (as := []) (st := []) (h2 := h13) (d2 := d - 1) d242_27 ky242 ml217 st194 (by decide) cn194 rfl na194 (Nat.le_of_ble_eq_true rfl) (by omega) (f_M_begins_ok (by omega) hc12) ?_
    refine xs_aload_n d242_30 rfl ?_
    refine xe_getc (j := 0) d242_31 ky242 fl195 fk12_34 rfl ?_
    refine xs_iload_n d242_34 rfl ?_
    refine xs_aload_n d242_35 rfl ?_
    refine xs_iload_n d242_36 rfl ?_
    obtain ⟨q16, hc15, hf⟩ := lk_b hf
    refine xe_callv1 (as := [xi v2]) (st := [xi v2, xr 64 (some 0)]) (h2 := q16.2) (d2 := d - 1) d242_37 ky242 ml282 st241 (by decide) cn241 rfl na241 (Nat.le_of_ble_eq_true rfl) (by omega) (f_M_areAllSo_ok (by omega) hc15) ?_
    obtain ⟨hin17, hf⟩ := lk_g hf
    obtain ⟨hz19, hf⟩ := lk_g hf
    obtain ⟨h18, eh18, hf⟩ := lk_let hf
    refine xe_zast d242_40 (by decide) ak64 hin17 hz19 eh18 ?_
    obtain ⟨v2_20, ev2_20, hf⟩ := lk_let hf
    refine xe_iinc (v := v2_20) (b := 1) (ls2 := [(0, xr 12 (some 0)), (1, xi v1), (2, xi v2_20)]) d242_41 mx242 (by decide) rfl (by decide) ev2_20 rfl ?_
    refine xs_goto (tgt := 11) d242_44 (by decide) ?_
    exact K1 _ _ (Option.some.inj hf).symm
noncomputable def f_M_fillsFits_l11 (v1 : Int32) (v2 : Int32) (h : xH) : Option xH :=
  whl (fun s => f_M_fillsFits_s11 v1 s.1 s.2) (v2, h)
theorem f_M_fillsFits_l11_ok {g : xG} {l : Launch} {d : Nat} {v1 : Int32} {v2 : Int32} {h : xH} {o : xH} {R : Option xV} {H' : xH} (hD : 9 ≤ d) (hf : f_M_fillsFits_l11 v1 v2 h = some o) (K0 : ∀ (h1 : xH), o = h1 → R = none ∧ H' = h1) : xEv g l d 242 11 [(0, xr 12 (some 0)), (1, xi v1), (2, xi v2)] [] h R H' := by
  obtain ⟨n, hn⟩ := whl_iff.mp hf
  clear hf
  induction n generalizing v2 h with
  | zero => cases hn
  | succ n ih =>
    obtain ⟨o2, hs, hn⟩ := lk_b (show (f_M_fillsFits_s11 v1 v2 h).bind (fun o => Sum.elim (itn _ n) some o) = some o from hn)
    exact f_M_fillsFits_s11_ok hD hs (fun u0 u1 e => ih (by rw [e] at hn; exact hn)) (fun u0 e => K0 u0 (by rw [e] at hn; exact (Option.some.inj hn).symm))
noncomputable def f_M_fillsFits_e (h : xH) : Option xH :=
  xlet (h.1 12 21 0) fun v1_1 =>
  (f_M_keeps h).bind fun h4 =>
  f_M_fillsFits_l11 v1_1 (0 : Int32) h4
set_option maxHeartbeats 4000000 in
set_option maxRecDepth 100000 in
theorem f_M_fillsFits_e_ok {g : xG} {l : Launch} {d : Nat} {h : xH} {o : xH} {R : Option xV} {H' : xH} (hD : 9 ≤ d) (hf : f_M_fillsFits_e h = some o) (K0 : ∀ (h1 : xH), o = h1 → R = none ∧ H' = h1) : xEv g l d 242 0 [(0, xr 12 (some 0))] [] h R H' := by
  unfold f_M_fillsFits_e at hf
  refine xs_aload_n d242_0 rfl ?_
  refine xe_geti d242_1 ky242 fl182 fk12_21 ?_
  obtain ⟨v1_1, ev1_1, hf⟩ := lk_let hf
  refine xe_istore_n (v := v1_1) (ls2 := [(0, xr 12 (some 0)), (1, xi v1_1)]) d242_4 mx242 (by decide) ev1_1 rfl ?_
  refine xs_aload_n d242_5 rfl ?_
  obtain ⟨h4, hc3, hf⟩ := lk_b hf
  refine xe_callv0 (as := []) (st := []) (h2 := h4) (d2 := d - 1) d242_6 ky242 ml252 st212 (by decide) cn212 rfl na212 (Nat.le_of_ble_eq_true rfl) (by omega) (f_M_keeps_ok (by omega) hc3) ?_
  refine xs_iconst (v := 0) d242_9 (by decide) ?_
  refine xe_istore_n (v := (0 : Int32)) (ls2 := [(0, xr 12 (some 0)), (1, xi v1_1), (2, xi (0 : Int32))]) d242_10 mx242 (by decide) rfl rfl ?_
  exact f_M_fillsFits_l11_ok hD hf K0
noncomputable def f_M_fillsFits (h : xH) : Option xH := f_M_fillsFits_e h
theorem f_M_fillsFits_ok {g : xG} {l : Launch} {d : Nat} {h : xH} {h1 : xH} (hD : 9 ≤ d) (hf : f_M_fillsFits h = some h1) : xC g l d 242 [xr 12 (some 0)] h none h1 :=
  xC_of2 (by decide) mx242 (Nat.le_of_ble_eq_true rfl) (f_M_fillsFits_e_ok hD hf (fun _ e => ⟨rfl, e⟩))
theorem d243_0 : decode (xcode 243) 0 = .ok (.aload_n 0, 1) := by decide +kernel
theorem d243_1 : decode (xcode 243) 1 = .ok (.invokevirtual 349, 3) := by decide +kernel
theorem d243_4 : decode (xcode 243) 4 = .ok (.ifCond .eq 13, 3) := by decide +kernel
theorem d243_7 : decode (xcode 243) 7 = .ok (.iload_n 1, 1) := by decide +kernel
theorem d243_8 : decode (xcode 243) 8 = .ok (.i2l, 1) := by decide +kernel
theorem d243_9 : decode (xcode 243) 9 = .ok (.lconst 0, 1) := by decide +kernel
theorem d243_10 : decode (xcode 243) 10 = .ok (.lconst 1, 1) := by decide +kernel
theorem d243_11 : decode (xcode 243) 11 = .ok (.invokestatic 124, 3) := by decide +kernel
theorem d243_14 : decode (xcode 243) 14 = .ok (.ifCond .ne 6, 3) := by decide +kernel
theorem d243_17 : decode (xcode 243) 17 = .ok (.bipush (-3), 2) := by decide +kernel
theorem d243_19 : decode (xcode 243) 19 = .ok (.ireturn, 1) := by decide +kernel
theorem d243_20 : decode (xcode 243) 20 = .ok (.aload_n 0, 1) := by decide +kernel
theorem d243_21 : decode (xcode 243) 21 = .ok (.invokevirtual 435, 3) := by decide +kernel
theorem d243_24 : decode (xcode 243) 24 = .ok (.iconst 0, 1) := by decide +kernel
theorem d243_25 : decode (xcode 243) 25 = .ok (.istore_n 2, 1) := by decide +kernel
theorem d243_26 : decode (xcode 243) 26 = .ok (.bipush (-2), 2) := by decide +kernel
theorem d243_28 : decode (xcode 243) 28 = .ok (.istore_n 3, 1) := by decide +kernel
theorem d243_29 : decode (xcode 243) 29 = .ok (.aload_n 0, 1) := by decide +kernel
theorem d243_30 : decode (xcode 243) 30 = .ok (.getfield 263, 3) := by decide +kernel
theorem d243_33 : decode (xcode 243) 33 = .ok (.istore 4, 2) := by decide +kernel
theorem d243_35 : decode (xcode 243) 35 = .ok (.iload 4, 2) := by decide +kernel
theorem d243_37 : decode (xcode 243) 37 = .ok (.ifCond .lt 30, 3) := by decide +kernel
theorem d243_40 : decode (xcode 243) 40 = .ok (.aload_n 0, 1) := by decide +kernel
theorem d243_41 : decode (xcode 243) 41 = .ok (.getfield 67, 3) := by decide +kernel
theorem d243_44 : decode (xcode 243) 44 = .ok (.iload 4, 2) := by decide +kernel
theorem d243_46 : decode (xcode 243) 46 = .ok (.baload, 1) := by decide +kernel
theorem d243_47 : decode (xcode 243) 47 = .ok (.ifCond .ne 6, 3) := by decide +kernel
theorem d243_50 : decode (xcode 243) 50 = .ok (.goto 11, 3) := by decide +kernel
theorem d243_53 : decode (xcode 243) 53 = .ok (.iload 4, 2) := by decide +kernel
theorem d243_55 : decode (xcode 243) 55 = .ok (.iconst 1, 1) := by decide +kernel
theorem d243_56 : decode (xcode 243) 56 = .ok (.isub, 1) := by decide +kernel
theorem d243_57 : decode (xcode 243) 57 = .ok (.istore_n 3, 1) := by decide +kernel
theorem d243_58 : decode (xcode 243) 58 = .ok (.iinc 2 1, 3) := by decide +kernel
theorem d243_61 : decode (xcode 243) 61 = .ok (.iinc 4 (-1), 3) := by decide +kernel
theorem d243_64 : decode (xcode 243) 64 = .ok (.goto (-29), 3) := by decide +kernel
theorem d243_67 : decode (xcode 243) 67 = .ok (.iload_n 1, 1) := by decide +kernel
theorem d243_68 : decode (xcode 243) 68 = .ok (.ifCond .ne 7, 3) := by decide +kernel
theorem d243_71 : decode (xcode 243) 71 = .ok (.iload_n 2, 1) := by decide +kernel
theorem d243_72 : decode (xcode 243) 72 = .ok (.goto 4, 3) := by decide +kernel
theorem d243_75 : decode (xcode 243) 75 = .ok (.iload_n 3, 1) := by decide +kernel
theorem d243_76 : decode (xcode 243) 76 = .ok (.ireturn, 1) := by decide +kernel
noncomputable def f_M_ruled_b67 (v1 : Int32) (v2 : Int32) (v3 : Int32) (h : xH) : Option (Int32 × xH) :=
  if v1 = (0 : Int32) then (
  some ((v2, h))) else (
  some ((v3, h)))
set_option maxHeartbeats 4000000 in
set_option maxRecDepth 100000 in
theorem f_M_ruled_b67_ok {g : xG} {l : Launch} {d : Nat} {v1 : Int32} {v2 : Int32} {v3 : Int32} {h : xH} {o : (Int32 × xH)} {R : Option xV} {H' : xH} (hD : 10 ≤ d) (hf : f_M_ruled_b67 v1 v2 v3 h = some o) (K0 : ∀ (a : Int32) (h1 : xH), o = (a, h1) → R = some (xi a) ∧ H' = h1) : xEv g l d 243 67 [(1, xi v1), (2, xi v2), (3, xi v3)] [] h R H' := by
  unfold f_M_ruled_b67 at hf
  refine xs_iload_n d243_67 rfl ?_
  rcases lk_if hf with ⟨hc12, hf⟩ | ⟨hc12, hf⟩
  · refine xs_if_ne (tgt := 75) d243_68 (by decide) (fun _ => ?_) (fun hn => absurd hc12 hn)
    refine xs_iload_n d243_71 rfl ?_
    refine xs_goto (tgt := 76) d243_72 (by decide) ?_
    obtain ⟨eR, eH⟩ := K0 _ _ (Option.some.inj hf).symm
    subst eR; subst eH
    exact xs_iret d243_76 rt243
  · refine xs_if_ne (tgt := 75) d243_68 (by decide) (fun hp => absurd hp hc12) (fun _ => ?_)
    refine xs_iload_n d243_75 rfl ?_
    obtain ⟨eR, eH⟩ := K0 _ _ (Option.some.inj hf).symm
    subst eR; subst eH
    exact xs_iret d243_76 rt243
noncomputable def f_M_ruled_b61 (v1 : Int32) (v2 : Int32) (v3 : Int32) (v4 : Int32) (h : xH) : Option ((Int32 × Int32 × Int32) ⊕ (Int32 × xH)) :=
  xlet (v4 + (-1 : Int32)) fun v4_15 =>
  some (Sum.inl (v2, v3, v4_15))
set_option maxHeartbeats 4000000 in
set_option maxRecDepth 100000 in
theorem f_M_ruled_b61_ok {g : xG} {l : Launch} {d : Nat} {v1 : Int32} {v2 : Int32} {v3 : Int32} {v4 : Int32} {h : xH} {o : ((Int32 × Int32 × Int32) ⊕ (Int32 × xH))} {R : Option xV} {H' : xH} (hD : 10 ≤ d) (hf : f_M_ruled_b61 v1 v2 v3 v4 h = some o) (K1 : ∀ (w2 : Int32) (w3 : Int32) (w4 : Int32), o = Sum.inl (w2, w3, w4) → xEv g l d 243 35 [(0, xr 12 (some 0)), (1, xi v1), (2, xi w2), (3, xi w3), (4, xi w4)] [] h R H') (K0 : ∀ (a : Int32) (h1 : xH), o = Sum.inr ((a, h1)) → R = some (xi a) ∧ H' = h1) : xEv g l d 243 61 [(0, xr 12 (some 0)), (1, xi v1), (2, xi v2), (3, xi v3), (4, xi v4)] [] h R H' := by
  unfold f_M_ruled_b61 at hf
  obtain ⟨v4_15, ev4_15, hf⟩ := lk_let hf
  refine xe_iinc (v := v4_15) (b := -1) (ls2 := [(0, xr 12 (some 0)), (1, xi v1), (2, xi v2), (3, xi v3), (4, xi v4_15)]) d243_61 mx243 (by decide) rfl (by decide) ev4_15 rfl ?_
  refine xs_goto (tgt := 35) d243_64 (by decide) ?_
  exact K1 _ _ _ (Option.some.inj hf).symm
noncomputable def f_M_ruled_s35 (v1 : Int32) (v2 : Int32) (v3 : Int32) (v4 : Int32) (h : xH) : Option ((Int32 × Int32 × Int32) ⊕ (Int32 × xH)) :=
  if v4 < (0 : Int32) then (
  xup (f_M_ruled_b67 v1 v2 v3 h)) else (
  if xib v4 7 then (
  if (h.2.2.2.1 64 0 (v4).toNatClampNeg) = (0 : Int32) then (
  f_M_ruled_b61 v1 v2 v3 v4 h) else (
  xlet (v4 - (1 : Int32)) fun v3_16 =>
  xlet (v2 + (1 : Int32)) fun v2_17 =>
  f_M_ruled_b61 v1 v2_17 v3_16 v4 h)) else none)
set_option maxHeartbeats 4000000 in
set_option maxRecDepth 100000 in
theorem f_M_ruled_s35_ok {g : xG} {l : Launch} {d : Nat} {v1 : Int32} {v2 : Int32} {v3 : Int32} {v4 : Int32} {h : xH} {o : ((Int32 × Int32 × Int32) ⊕ (Int32 × xH))} {R : Option xV} {H' : xH} (hD : 10 ≤ d) (hf : f_M_ruled_s35 v1 v2 v3 v4 h = some o) (K1 : ∀ (w2 : Int32) (w3 : Int32) (w4 : Int32), o = Sum.inl (w2, w3, w4) → xEv g l d 243 35 [(0, xr 12 (some 0)), (1, xi v1), (2, xi w2), (3, xi w3), (4, xi w4)] [] h R H') (K0 : ∀ (a : Int32) (h1 : xH), o = Sum.inr ((a, h1)) → R = some (xi a) ∧ H' = h1) : xEv g l d 243 35 [(0, xr 12 (some 0)), (1, xi v1), (2, xi v2), (3, xi v3), (4, xi v4)] [] h R H' := by
  unfold f_M_ruled_s35 at hf
  refine xs_iload d243_35 rfl ?_
  rcases lk_if hf with ⟨hc11, hf⟩ | ⟨hc11, hf⟩
  · refine xs_if_lt (tgt := 67) d243_37 (by decide) (fun _ => ?_) (fun hn => absurd hc11 hn)
    refine xs_pick [1, 2, 3] rfl ?_
    obtain ⟨x0, hf, ex0⟩ := lk_up hf
    exact f_M_ruled_b67_ok hD hf (fun u0 u1 e => K0 u0 u1 (ex0.trans (congrArg Sum.inr e)))
  · refine xs_if_lt (tgt := 67) d243_37 (by decide) (fun hp => absurd hp hc11) (fun _ => ?_)
    refine xs_aload_n d243_40 rfl ?_
    refine xe_getc (j := 0) d243_41 ky243 fl195 fk12_34 rfl ?_
    refine xs_iload d243_44 rfl ?_
    obtain ⟨hin13, hf⟩ := lk_g hf
    refine xe_zald d243_46 (by decide) ak64 hin13 ?_
    rcases lk_if hf with ⟨hc14, hf⟩ | ⟨hc14, hf⟩
    · refine xs_if_ne (tgt := 53) d243_47 (by decide) (fun _ => ?_) (fun hn => absurd hc14 hn)
      refine xs_goto (tgt := 61) d243_50 (by decide) ?_
      exact f_M_ruled_b61_ok hD hf K1 K0
    · refine xs_if_ne (tgt := 53) d243_47 (by decide) (fun hp => absurd hp hc14) (fun _ => ?_)
      refine xs_iload d243_53 rfl ?_
      refine xs_iconst (v := 1) d243_55 (by decide) ?_
      refine xs_isub d243_56 ?_
      obtain ⟨v3_16, ev3_16, hf⟩ := lk_let hf
      refine xe_istore_n (v := v3_16) (ls2 := [(0, xr 12 (some 0)), (1, xi v1), (2, xi v2), (3, xi v3_16), (4, xi v4)]) d243_57 mx243 (by decide) ev3_16 rfl ?_
      obtain ⟨v2_17, ev2_17, hf⟩ := lk_let hf
      refine xe_iinc (v := v2_17) (b := 1) (ls2 := [(0, xr 12 (some 0)), (1, xi v1), (2, xi v2_17), (3, xi v3_16), (4, xi v4)]) d243_58 mx243 (by decide) rfl (by decide) ev2_17 rfl ?_
      exact f_M_ruled_b61_ok hD hf K1 K0
noncomputable def f_M_ruled_l35 (v1 : Int32) (v2 : Int32) (v3 : Int32) (v4 : Int32) (h : xH) : Option (Int32 × xH) :=
  whl (fun s => f_M_ruled_s35 v1 s.1 s.2.1 s.2.2 h) (v2, v3, v4)
theorem f_M_ruled_l35_ok {g : xG} {l : Launch} {d : Nat} {v1 : Int32} {v2 : Int32} {v3 : Int32} {v4 : Int32} {h : xH} {o : (Int32 × xH)} {R : Option xV} {H' : xH} (hD : 10 ≤ d) (hf : f_M_ruled_l35 v1 v2 v3 v4 h = some o) (K0 : ∀ (a : Int32) (h1 : xH), o = (a, h1) → R = some (xi a) ∧ H' = h1) : xEv g l d 243 35 [(0, xr 12 (some 0)), (1, xi v1), (2, xi v2), (3, xi v3), (4, xi v4)] [] h R H' := by
  obtain ⟨n, hn⟩ := whl_iff.mp hf
  clear hf
  induction n generalizing v2 v3 v4 with
  | zero => cases hn
  | succ n ih =>
    obtain ⟨o2, hs, hn⟩ := lk_b (show (f_M_ruled_s35 v1 v2 v3 v4 h).bind (fun o => Sum.elim (itn _ n) some o) = some o from hn)
    exact f_M_ruled_s35_ok hD hs (fun u0 u1 u2 e => ih (by rw [e] at hn; exact hn)) (fun u0 u1 e => K0 u0 u1 (by rw [e] at hn; exact (Option.some.inj hn).symm))
noncomputable def f_M_ruled_e (v1 : Int32) (h : xH) : Option (Int32 × xH) :=
  (f_M_isTrug h).bind fun r1 =>
  if r1 = (0 : Int32) then (
  some (((-3 : Int32), h))) else (
  (f_M_in ((v1).toInt64) (0 : Int64) (1 : Int64) h).bind fun r4 =>
  if r4 = (0 : Int32) then (
  some (((-3 : Int32), h))) else (
  (f_M_fillsFits h).bind fun h9 =>
  xlet (h9.1 12 2 0) fun v4_10 =>
  f_M_ruled_l35 v1 (0 : Int32) (-2 : Int32) v4_10 h9))
set_option maxHeartbeats 4000000 in
set_option maxRecDepth 100000 in
theorem f_M_ruled_e_ok {g : xG} {l : Launch} {d : Nat} {v1 : Int32} {h : xH} {o : (Int32 × xH)} {R : Option xV} {H' : xH} (hD : 10 ≤ d) (hf : f_M_ruled_e v1 h = some o) (K0 : ∀ (a : Int32) (h1 : xH), o = (a, h1) → R = some (xi a) ∧ H' = h1) : xEv g l d 243 0 [(0, xr 12 (some 0)), (1, xi v1)] [] h R H' := by
  unfold f_M_ruled_e at hf
  refine xs_aload_n d243_0 rfl ?_
  obtain ⟨r1, hc2, hf⟩ := lk_b hf
  refine xe_callv1 (as := []) (st := []) (h2 := h) (d2 := d - 1) d243_1 ky243 ml225 st184 (by decide) cn184 rfl na184 (Nat.le_of_ble_eq_true rfl) (by omega) (f_M_isTrug_ok (by omega) hc2) ?_
  rcases lk_if hf with ⟨hc3, hf⟩ | ⟨hc3, hf⟩
  · refine xs_if_eq (tgt := 17) d243_4 (by decide) (fun _ => ?_) (fun hn => absurd hc3 hn)
    refine xs_bipush (v := -3) d243_17 (by decide) ?_
    obtain ⟨eR, eH⟩ := K0 _ _ (Option.some.inj hf).symm
    subst eR; subst eH
    exact xs_iret d243_19 rt243
  · refine xs_if_eq (tgt := 17) d243_4 (by decide) (fun hp => absurd hp hc3) (fun _ => ?_)
    refine xs_iload_n d243_7 rfl ?_
    refine xs_i2l d243_8 ?_
    refine xs_lconst (v := 0) d243_9 (by decide) ?_
    refine xs_lconst (v := 1) d243_10 (by decide) ?_
    obtain ⟨r4, hc5, hf⟩ := lk_b hf
    refine xe_calls1 (as := [xl ((v1).toInt64), xl (0 : Int64), xl (1 : Int64)]) (st := []) (h2 := h) (d2 := d - 1) d243_11 ky243 ml196 st139 rfl na139 (Nat.le_of_ble_eq_true rfl) (by omega) (f_M_in_ok (by omega) hc5) ?_
    rcases lk_if hf with ⟨hc6, hf⟩ | ⟨hc6, hf⟩
    · refine xs_if_ne (tgt := 20) d243_14 (by decide) (fun _ => ?_) (fun hn => absurd hc6 hn)
      refine xs_bipush (v := -3) d243_17 (by decide) ?_
      obtain ⟨eR, eH⟩ := K0 _ _ (Option.some.inj hf).symm
      subst eR; subst eH
      exact xs_iret d243_19 rt243
    · refine xs_if_ne (tgt := 20) d243_14 (by decide) (fun hp => absurd hp hc6) (fun _ => ?_)
      refine xs_aload_n d243_20 rfl ?_
      obtain ⟨h9, hc8, hf⟩ := lk_b hf
      refine xe_callv0 (as := []) (st := []) (h2 := h9) (d2 := d - 1) d243_21 ky243 ml281 st242 (by decide) cn242 rfl na242 (Nat.le_of_ble_eq_true rfl) (by omega) (f_M_fillsFits_ok (by omega) hc8) ?_
      refine xs_iconst (v := 0) d243_24 (by decide) ?_
      refine xe_istore_n (v := (0 : Int32)) (ls2 := [(0, xr 12 (some 0)), (1, xi v1), (2, xi (0 : Int32))]) d243_25 mx243 (by decide) rfl rfl ?_
      refine xs_bipush (v := -2) d243_26 (by decide) ?_
      refine xe_istore_n (v := (-2 : Int32)) (ls2 := [(0, xr 12 (some 0)), (1, xi v1), (2, xi (0 : Int32)), (3, xi (-2 : Int32))]) d243_28 mx243 (by decide) rfl rfl ?_
      refine xs_aload_n d243_29 rfl ?_
      refine xe_geti d243_30 ky243 fl163 fk12_2 ?_
      obtain ⟨v4_10, ev4_10, hf⟩ := lk_let hf
      refine xe_istore (v := v4_10) (ls2 := [(0, xr 12 (some 0)), (1, xi v1), (2, xi (0 : Int32)), (3, xi (-2 : Int32)), (4, xi v4_10)]) d243_33 mx243 (by decide) ev4_10 rfl ?_
      exact f_M_ruled_l35_ok hD hf K0
noncomputable def f_M_ruled (v1 : Int32) (h : xH) : Option (Int32 × xH) := f_M_ruled_e v1 h
theorem f_M_ruled_ok {g : xG} {l : Launch} {d : Nat} {v1 : Int32} {h : xH} {r : Int32} {h1 : xH} (hD : 10 ≤ d) (hf : f_M_ruled v1 h = some (r, h1)) : xC g l d 243 [xr 12 (some 0), xi v1] h (some (xi r)) h1 :=
  xC_of2 (by decide) mx243 (Nat.le_of_ble_eq_true rfl) (f_M_ruled_e_ok hD hf (fun _ _ e => by cases e; exact ⟨rfl, rfl⟩))
theorem d244_0 : decode (xcode 244) 0 = .ok (.iconst 0, 1) := by decide +kernel
theorem d244_1 : decode (xcode 244) 1 = .ok (.istore_n 2, 1) := by decide +kernel
theorem d244_2 : decode (xcode 244) 2 = .ok (.iconst 0, 1) := by decide +kernel
theorem d244_3 : decode (xcode 244) 3 = .ok (.istore_n 3, 1) := by decide +kernel
theorem d244_4 : decode (xcode 244) 4 = .ok (.iload_n 3, 1) := by decide +kernel
theorem d244_5 : decode (xcode 244) 5 = .ok (.aload_n 0, 1) := by decide +kernel
theorem d244_6 : decode (xcode 244) 6 = .ok (.getfield 263, 3) := by decide +kernel
theorem d244_9 : decode (xcode 244) 9 = .ok (.if_icmp .gt 98, 3) := by decide +kernel
theorem d244_12 : decode (xcode 244) 12 = .ok (.iconst 0, 1) := by decide +kernel
theorem d244_13 : decode (xcode 244) 13 = .ok (.istore 4, 2) := by decide +kernel
theorem d244_15 : decode (xcode 244) 15 = .ok (.iconst 0, 1) := by decide +kernel
theorem d244_16 : decode (xcode 244) 16 = .ok (.istore 5, 2) := by decide +kernel
theorem d244_18 : decode (xcode 244) 18 = .ok (.iload 5, 2) := by decide +kernel
theorem d244_20 : decode (xcode 244) 20 = .ok (.aload_n 0, 1) := by decide +kernel
theorem d244_21 : decode (xcode 244) 21 = .ok (.getfield 263, 3) := by decide +kernel
theorem d244_24 : decode (xcode 244) 24 = .ok (.if_icmp .gt 64, 3) := by decide +kernel
theorem d244_27 : decode (xcode 244) 27 = .ok (.aload_n 0, 1) := by decide +kernel
theorem d244_28 : decode (xcode 244) 28 = .ok (.getfield 67, 3) := by decide +kernel
theorem d244_31 : decode (xcode 244) 31 = .ok (.iload_n 3, 1) := by decide +kernel
theorem d244_32 : decode (xcode 244) 32 = .ok (.baload, 1) := by decide +kernel
theorem d244_33 : decode (xcode 244) 33 = .ok (.ifCond .eq 55, 3) := by decide +kernel
theorem d244_36 : decode (xcode 244) 36 = .ok (.iload 4, 2) := by decide +kernel
theorem d244_38 : decode (xcode 244) 38 = .ok (.aload_n 0, 1) := by decide +kernel
theorem d244_39 : decode (xcode 244) 39 = .ok (.getfield 67, 3) := by decide +kernel
theorem d244_42 : decode (xcode 244) 42 = .ok (.iload 5, 2) := by decide +kernel
theorem d244_44 : decode (xcode 244) 44 = .ok (.baload, 1) := by decide +kernel
theorem d244_45 : decode (xcode 244) 45 = .ok (.ifCond .eq 33, 3) := by decide +kernel
theorem d244_48 : decode (xcode 244) 48 = .ok (.aload_n 0, 1) := by decide +kernel
theorem d244_49 : decode (xcode 244) 49 = .ok (.getfield 71, 3) := by decide +kernel
theorem d244_52 : decode (xcode 244) 52 = .ok (.bipush 61, 2) := by decide +kernel
theorem d244_54 : decode (xcode 244) 54 = .ok (.iload_n 3, 1) := by decide +kernel
theorem d244_55 : decode (xcode 244) 55 = .ok (.imul, 1) := by decide +kernel
theorem d244_56 : decode (xcode 244) 56 = .ok (.iload_n 1, 1) := by decide +kernel
theorem d244_57 : decode (xcode 244) 57 = .ok (.iadd, 1) := by decide +kernel
theorem d244_58 : decode (xcode 244) 58 = .ok (.iaload, 1) := by decide +kernel
theorem d244_59 : decode (xcode 244) 59 = .ok (.aload_n 0, 1) := by decide +kernel
theorem d244_60 : decode (xcode 244) 60 = .ok (.getfield 71, 3) := by decide +kernel
theorem d244_63 : decode (xcode 244) 63 = .ok (.bipush 61, 2) := by decide +kernel
theorem d244_65 : decode (xcode 244) 65 = .ok (.iload 5, 2) := by decide +kernel
theorem d244_67 : decode (xcode 244) 67 = .ok (.imul, 1) := by decide +kernel
theorem d244_68 : decode (xcode 244) 68 = .ok (.iload_n 1, 1) := by decide +kernel
theorem d244_69 : decode (xcode 244) 69 = .ok (.iadd, 1) := by decide +kernel
theorem d244_70 : decode (xcode 244) 70 = .ok (.iaload, 1) := by decide +kernel
theorem d244_71 : decode (xcode 244) 71 = .ok (.if_icmp .ne 7, 3) := by decide +kernel
theorem d244_74 : decode (xcode 244) 74 = .ok (.iconst 1, 1) := by decide +kernel
theorem d244_75 : decode (xcode 244) 75 = .ok (.goto 4, 3) := by decide +kernel
theorem d244_78 : decode (xcode 244) 78 = .ok (.iconst 0, 1) := by decide +kernel
theorem d244_79 : decode (xcode 244) 79 = .ok (.iadd, 1) := by decide +kernel
theorem d244_80 : decode (xcode 244) 80 = .ok (.istore 4, 2) := by decide +kernel
theorem d244_82 : decode (xcode 244) 82 = .ok (.iinc 5 1, 3) := by decide +kernel
theorem d244_85 : decode (xcode 244) 85 = .ok (.goto (-67), 3) := by decide +kernel
theorem d244_88 : decode (xcode 244) 88 = .ok (.iload 4, 2) := by decide +kernel
theorem d244_90 : decode (xcode 244) 90 = .ok (.iload_n 2, 1) := by decide +kernel
theorem d244_91 : decode (xcode 244) 91 = .ok (.if_icmp .le 8, 3) := by decide +kernel
theorem d244_94 : decode (xcode 244) 94 = .ok (.iload 4, 2) := by decide +kernel
theorem d244_96 : decode (xcode 244) 96 = .ok (.goto 4, 3) := by decide +kernel
theorem d244_99 : decode (xcode 244) 99 = .ok (.iload_n 2, 1) := by decide +kernel
theorem d244_100 : decode (xcode 244) 100 = .ok (.istore_n 2, 1) := by decide +kernel
theorem d244_101 : decode (xcode 244) 101 = .ok (.iinc 3 1, 3) := by decide +kernel
theorem d244_104 : decode (xcode 244) 104 = .ok (.goto (-100), 3) := by decide +kernel
theorem d244_107 : decode (xcode 244) 107 = .ok (.iload_n 2, 1) := by decide +kernel
theorem d244_108 : decode (xcode 244) 108 = .ok (.ireturn, 1) := by decide +kernel
noncomputable def f_M_alikeAt_b100 (v1 : Int32) (v3 : Int32) (t0 : Int32) (h : xH) : Option ((Int32 × Int32) ⊕ Int32) :=
  xlet (v3 + (1 : Int32)) fun v3_4 =>
  some (Sum.inl (t0, v3_4))
set_option maxHeartbeats 4000000 in
set_option maxRecDepth 100000 in
theorem f_M_alikeAt_b100_ok {g : xG} {l : Launch} {d : Nat} {v1 : Int32} {v3 : Int32} {t0 : Int32} {h : xH} {o : ((Int32 × Int32) ⊕ Int32)} {R : Option xV} (hD : 0 ≤ d) (hf : f_M_alikeAt_b100 v1 v3 t0 h = some o) (K1 : ∀ (w2 : Int32) (w3 : Int32), o = Sum.inl (w2, w3) → xEv g l d 244 4 [(0, xr 12 (some 0)), (1, xi v1), (2, xi w2), (3, xi w3)] [] h R h) (K0 : ∀ (a : Int32), o = Sum.inr (a) → R = some (xi a)) : xEv g l d 244 100 [(0, xr 12 (some 0)), (1, xi v1), (3, xi v3)] [xi t0] h R h := by
  unfold f_M_alikeAt_b100 at hf
  refine xe_istore_n (v := t0) (ls2 := [(0, xr 12 (some 0)), (1, xi v1), (2, xi t0), (3, xi v3)]) d244_100 mx244 (by decide) rfl rfl ?_
  obtain ⟨v3_4, ev3_4, hf⟩ := lk_let hf
  refine xe_iinc (v := v3_4) (b := 1) (ls2 := [(0, xr 12 (some 0)), (1, xi v1), (2, xi t0), (3, xi v3_4)]) d244_101 mx244 (by decide) rfl (by decide) ev3_4 rfl ?_
  refine xs_goto (tgt := 4) d244_104 (by decide) ?_
  exact K1 _ _ (Option.some.inj hf).symm
noncomputable def f_M_alikeAt_b88 (v1 : Int32) (v2 : Int32) (v3 : Int32) (v4 : Int32) (h : xH) : Option ((Int32 × Int32) ⊕ Int32) :=
  if v4 ≤ v2 then (
  f_M_alikeAt_b100 v1 v3 v2 h) else (
  f_M_alikeAt_b100 v1 v3 v4 h)
set_option maxHeartbeats 4000000 in
set_option maxRecDepth 100000 in
theorem f_M_alikeAt_b88_ok {g : xG} {l : Launch} {d : Nat} {v1 : Int32} {v2 : Int32} {v3 : Int32} {v4 : Int32} {h : xH} {o : ((Int32 × Int32) ⊕ Int32)} {R : Option xV} (hD : 0 ≤ d) (hf : f_M_alikeAt_b88 v1 v2 v3 v4 h = some o) (K1 : ∀ (w2 : Int32) (w3 : Int32), o = Sum.inl (w2, w3) → xEv g l d 244 4 [(0, xr 12 (some 0)), (1, xi v1), (2, xi w2), (3, xi w3)] [] h R h) (K0 : ∀ (a : Int32), o = Sum.inr (a) → R = some (xi a)) : xEv g l d 244 88 [(0, xr 12 (some 0)), (1, xi v1), (2, xi v2), (3, xi v3), (4, xi v4)] [] h R h := by
  unfold f_M_alikeAt_b88 at hf
  refine xs_iload d244_88 rfl ?_
  refine xs_iload_n d244_90 rfl ?_
  rcases lk_if hf with ⟨hc3, hf⟩ | ⟨hc3, hf⟩
  · refine xs_icmp_le (tgt := 99) d244_91 (by decide) (fun _ => ?_) (fun hn => absurd hc3 hn)
    refine xs_iload_n d244_99 rfl ?_
    refine xs_pick [0, 1, 3] rfl ?_
    exact f_M_alikeAt_b100_ok hD hf K1 K0
  · refine xs_icmp_le (tgt := 99) d244_91 (by decide) (fun hp => absurd hp hc3) (fun _ => ?_)
    refine xs_iload d244_94 rfl ?_
    refine xs_goto (tgt := 100) d244_96 (by decide) ?_
    refine xs_pick [0, 1, 3] rfl ?_
    exact f_M_alikeAt_b100_ok hD hf K1 K0
noncomputable def f_M_alikeAt_b79 (v1 : Int32) (v2 : Int32) (v3 : Int32) (v5 : Int32) (t0 : Int32) (t1 : Int32) (h : xH) : Option ((Int32 × Int32) ⊕ ((Int32 × Int32) ⊕ Int32)) :=
  xlet (t1 + t0) fun v4_9 =>
  xlet (v5 + (1 : Int32)) fun v5_10 =>
  some (Sum.inl (v4_9, v5_10))
set_option maxHeartbeats 4000000 in
set_option maxRecDepth 100000 in
theorem f_M_alikeAt_b79_ok {g : xG} {l : Launch} {d : Nat} {v1 : Int32} {v2 : Int32} {v3 : Int32} {v5 : Int32} {t0 : Int32} {t1 : Int32} {h : xH} {o : ((Int32 × Int32) ⊕ ((Int32 × Int32) ⊕ Int32))} {R : Option xV} (hD : 0 ≤ d) (hf : f_M_alikeAt_b79 v1 v2 v3 v5 t0 t1 h = some o) (K1 : ∀ (w2 : Int32) (w3 : Int32), o = Sum.inr (Sum.inl (w2, w3)) → xEv g l d 244 4 [(0, xr 12 (some 0)), (1, xi v1), (2, xi w2), (3, xi w3)] [] h R h) (K2 : ∀ (w4 : Int32) (w5 : Int32), o = Sum.inl (w4, w5) → xEv g l d 244 18 [(0, xr 12 (some 0)), (1, xi v1), (2, xi v2), (3, xi v3), (4, xi w4), (5, xi w5)] [] h R h) (K0 : ∀ (a : Int32), o = Sum.inr (Sum.inr (a)) → R = some (xi a)) : xEv g l d 244 79 [(0, xr 12 (some 0)), (1, xi v1), (2, xi v2), (3, xi v3), (5, xi v5)] [xi t0, xi t1] h R h := by
  unfold f_M_alikeAt_b79 at hf
  refine xs_iadd d244_79 ?_
  obtain ⟨v4_9, ev4_9, hf⟩ := lk_let hf
  refine xe_istore (v := v4_9) (ls2 := [(0, xr 12 (some 0)), (1, xi v1), (2, xi v2), (3, xi v3), (4, xi v4_9), (5, xi v5)]) d244_80 mx244 (by decide) ev4_9 rfl ?_
  obtain ⟨v5_10, ev5_10, hf⟩ := lk_let hf
  refine xe_iinc (v := v5_10) (b := 1) (ls2 := [(0, xr 12 (some 0)), (1, xi v1), (2, xi v2), (3, xi v3), (4, xi v4_9), (5, xi v5_10)]) d244_82 mx244 (by decide) rfl (by decide) ev5_10 rfl ?_
  refine xs_goto (tgt := 18) d244_85 (by decide) ?_
  exact K2 _ _ (Option.some.inj hf).symm
noncomputable def f_M_alikeAt_b78 (v1 : Int32) (v2 : Int32) (v3 : Int32) (v5 : Int32) (t0 : Int32) (h : xH) : Option ((Int32 × Int32) ⊕ ((Int32 × Int32) ⊕ Int32)) :=
  f_M_alikeAt_b79 v1 v2 v3 v5 (0 : Int32) t0 h
set_option maxHeartbeats 4000000 in
set_option maxRecDepth 100000 in
theorem f_M_alikeAt_b78_ok {g : xG} {l : Launch} {d : Nat} {v1 : Int32} {v2 : Int32} {v3 : Int32} {v5 : Int32} {t0 : Int32} {h : xH} {o : ((Int32 × Int32) ⊕ ((Int32 × Int32) ⊕ Int32))} {R : Option xV} (hD : 0 ≤ d) (hf : f_M_alikeAt_b78 v1 v2 v3 v5 t0 h = some o) (K1 : ∀ (w2 : Int32) (w3 : Int32), o = Sum.inr (Sum.inl (w2, w3)) → xEv g l d 244 4 [(0, xr 12 (some 0)), (1, xi v1), (2, xi w2), (3, xi w3)] [] h R h) (K2 : ∀ (w4 : Int32) (w5 : Int32), o = Sum.inl (w4, w5) → xEv g l d 244 18 [(0, xr 12 (some 0)), (1, xi v1), (2, xi v2), (3, xi v3), (4, xi w4), (5, xi w5)] [] h R h) (K0 : ∀ (a : Int32), o = Sum.inr (Sum.inr (a)) → R = some (xi a)) : xEv g l d 244 78 [(0, xr 12 (some 0)), (1, xi v1), (2, xi v2), (3, xi v3), (5, xi v5)] [xi t0] h R h := by
  unfold f_M_alikeAt_b78 at hf
  refine xs_iconst (v := 0) d244_78 (by decide) ?_
  exact f_M_alikeAt_b79_ok hD hf K1 K2 K0
noncomputable def f_M_alikeAt_s18 (v1 : Int32) (v2 : Int32) (v3 : Int32) (v4 : Int32) (v5 : Int32) (h : xH) : Option ((Int32 × Int32) ⊕ ((Int32 × Int32) ⊕ Int32)) :=
  if (h.1 12 2 0) < v5 then (
  xup (f_M_alikeAt_b88 v1 v2 v3 v4 h)) else (
  if xib v3 7 then (
  if (h.2.2.2.1 64 0 (v3).toNatClampNeg) = (0 : Int32) then (
  xup (f_M_alikeAt_b88 v1 v2 v3 v4 h)) else (
  if xib v5 7 then (
  if (h.2.2.2.1 64 0 (v5).toNatClampNeg) = (0 : Int32) then (
  f_M_alikeAt_b78 v1 v2 v3 v5 v4 h) else (
  if xib (((61 : Int32) * v3) + v1) 427 then (
  if xib (((61 : Int32) * v5) + v1) 427 then (
  if (h.2.2.2.1 65 0 (((61 : Int32) * v3) + v1).toNatClampNeg) = (h.2.2.2.1 65 0 (((61 : Int32) * v5) + v1).toNatClampNeg) then (
  f_M_alikeAt_b79 v1 v2 v3 v5 (1 : Int32) v4 h) else (
  f_M_alikeAt_b78 v1 v2 v3 v5 v4 h)) else none) else none)) else none)) else none)
set_option maxHeartbeats 4000000 in
set_option maxRecDepth 100000 in
theorem f_M_alikeAt_s18_ok {g : xG} {l : Launch} {d : Nat} {v1 : Int32} {v2 : Int32} {v3 : Int32} {v4 : Int32} {v5 : Int32} {h : xH} {o : ((Int32 × Int32) ⊕ ((Int32 × Int32) ⊕ Int32))} {R : Option xV} (hD : 0 ≤ d) (hf : f_M_alikeAt_s18 v1 v2 v3 v4 v5 h = some o) (K1 : ∀ (w2 : Int32) (w3 : Int32), o = Sum.inr (Sum.inl (w2, w3)) → xEv g l d 244 4 [(0, xr 12 (some 0)), (1, xi v1), (2, xi w2), (3, xi w3)] [] h R h) (K2 : ∀ (w4 : Int32) (w5 : Int32), o = Sum.inl (w4, w5) → xEv g l d 244 18 [(0, xr 12 (some 0)), (1, xi v1), (2, xi v2), (3, xi v3), (4, xi w4), (5, xi w5)] [] h R h) (K0 : ∀ (a : Int32), o = Sum.inr (Sum.inr (a)) → R = some (xi a)) : xEv g l d 244 18 [(0, xr 12 (some 0)), (1, xi v1), (2, xi v2), (3, xi v3), (4, xi v4), (5, xi v5)] [] h R h := by
  unfold f_M_alikeAt_s18 at hf
  refine xs_iload d244_18 rfl ?_
  refine xs_aload_n d244_20 rfl ?_
  refine xe_geti d244_21 ky244 fl163 fk12_2 ?_
  rcases lk_if hf with ⟨hc2, hf⟩ | ⟨hc2, hf⟩
  · refine xs_icmp_gt (tgt := 88) d244_24 (by decide) (fun _ => ?_) (fun hn => absurd hc2 hn)
    refine xs_pick [0, 1, 2, 3, 4] rfl ?_
    obtain ⟨x0, hf, ex0⟩ := lk_up hf
    exact f_M_alikeAt_b88_ok hD hf (fun u0 u1 e => K1 u0 u1 (ex0.trans (congrArg Sum.inr e))) (fun u0 e => K0 u0 (ex0.trans (congrArg Sum.inr e)))
  · refine xs_icmp_gt (tgt := 88) d244_24 (by decide) (fun hp => absurd hp hc2) (fun _ => ?_)
    refine xs_aload_n d244_27 rfl ?_
    refine xe_getc (j := 0) d244_28 ky244 fl195 fk12_34 rfl ?_
    refine xs_iload_n d244_31 rfl ?_
    obtain ⟨hin5, hf⟩ := lk_g hf
    refine xe_zald d244_32 (by decide) ak64 hin5 ?_
    rcases lk_if hf with ⟨hc6, hf⟩ | ⟨hc6, hf⟩
    · refine xs_if_eq (tgt := 88) d244_33 (by decide) (fun _ => ?_) (fun hn => absurd hc6 hn)
      refine xs_pick [0, 1, 2, 3, 4] rfl ?_
      obtain ⟨x0, hf, ex0⟩ := lk_up hf
      exact f_M_alikeAt_b88_ok hD hf (fun u0 u1 e => K1 u0 u1 (ex0.trans (congrArg Sum.inr e))) (fun u0 e => K0 u0 (ex0.trans (congrArg Sum.inr e)))
    · refine xs_if_eq (tgt := 88) d244_33 (by decide) (fun hp => absurd hp hc6) (fun _ => ?_)
      refine xs_iload d244_36 rfl ?_
      refine xs_aload_n d244_38 rfl ?_
      refine xe_getc (j := 0) d244_39 ky244 fl195 fk12_34 rfl ?_
      refine xs_iload d244_42 rfl ?_
      obtain ⟨hin7, hf⟩ := lk_g hf
      refine xe_zald d244_44 (by decide) ak64 hin7 ?_
      rcases lk_if hf with ⟨hc8, hf⟩ | ⟨hc8, hf⟩
      · refine xs_if_eq (tgt := 78) d244_45 (by decide) (fun _ => ?_) (fun hn => absurd hc8 hn)
        refine xs_pick [0, 1, 2, 3, 5] rfl ?_
        exact f_M_alikeAt_b78_ok hD hf K1 K2 K0
      · refine xs_if_eq (tgt := 78) d244_45 (by decide) (fun hp => absurd hp hc8) (fun _ => ?_)
        refine xs_aload_n d244_48 rfl ?_
        refine xe_getc (j := 0) d244_49 ky244 fl196 fk12_35 rfl ?_
        refine xs_bipush (v := 61) d244_52 (by decide) ?_
        refine xs_iload_n d244_54 rfl ?_
        refine xs_imul d244_55 ?_
        refine xs_iload_n d244_56 rfl ?_
        refine xs_iadd d244_57 ?_
        obtain ⟨hin11, hf⟩ := lk_g hf
        refine xe_iald d244_58 (by decide) ak65 hin11 ?_
        refine xs_aload_n d244_59 rfl ?_
        refine xe_getc (j := 0) d244_60 ky244 fl196 fk12_35 rfl ?_
        refine xs_bipush (v := 61) d244_63 (by decide) ?_
        refine xs_iload d244_65 rfl ?_
        refine xs_imul d244_67 ?_
        refine xs_iload_n d244_68 rfl ?_
        refine xs_iadd d244_69 ?_
        obtain ⟨hin12, hf⟩ := lk_g hf
        refine xe_iald d244_70 (by decide) ak65 hin12 ?_
        rcases lk_if hf with ⟨hc13, hf⟩ | ⟨hc13, hf⟩
        · refine xs_icmp_ne (tgt := 78) d244_71 (by decide) (fun _ => ?_) (fun hn => absurd hc13 hn)
          refine xs_iconst (v := 1) d244_74 (by decide) ?_
          refine xs_goto (tgt := 79) d244_75 (by decide) ?_
          refine xs_pick [0, 1, 2, 3, 5] rfl ?_
          exact f_M_alikeAt_b79_ok hD hf K1 K2 K0
        · refine xs_icmp_ne (tgt := 78) d244_71 (by decide) (fun hp => absurd hp hc13) (fun _ => ?_)
          refine xs_pick [0, 1, 2, 3, 5] rfl ?_
          exact f_M_alikeAt_b78_ok hD hf K1 K2 K0
noncomputable def f_M_alikeAt_l18 (v1 : Int32) (v2 : Int32) (v3 : Int32) (v4 : Int32) (v5 : Int32) (h : xH) : Option ((Int32 × Int32) ⊕ Int32) :=
  whl (fun s => f_M_alikeAt_s18 v1 v2 v3 s.1 s.2 h) (v4, v5)
theorem f_M_alikeAt_l18_ok {g : xG} {l : Launch} {d : Nat} {v1 : Int32} {v2 : Int32} {v3 : Int32} {v4 : Int32} {v5 : Int32} {h : xH} {o : ((Int32 × Int32) ⊕ Int32)} {R : Option xV} (hD : 0 ≤ d) (hf : f_M_alikeAt_l18 v1 v2 v3 v4 v5 h = some o) (K1 : ∀ (w2 : Int32) (w3 : Int32), o = Sum.inl (w2, w3) → xEv g l d 244 4 [(0, xr 12 (some 0)), (1, xi v1), (2, xi w2), (3, xi w3)] [] h R h) (K0 : ∀ (a : Int32), o = Sum.inr (a) → R = some (xi a)) : xEv g l d 244 18 [(0, xr 12 (some 0)), (1, xi v1), (2, xi v2), (3, xi v3), (4, xi v4), (5, xi v5)] [] h R h := by
  obtain ⟨n, hn⟩ := whl_iff.mp hf
  clear hf
  induction n generalizing v4 v5 with
  | zero => cases hn
  | succ n ih =>
    obtain ⟨o2, hs, hn⟩ := lk_b (show (f_M_alikeAt_s18 v1 v2 v3 v4 v5 h).bind (fun o => Sum.elim (itn _ n) some o) = some o from hn)
    exact f_M_alikeAt_s18_ok hD hs (fun u0 u1 e => K1 u0 u1 (by rw [e] at hn; exact (Option.some.inj hn).symm)) (fun u0 u1 e => ih (by rw [e] at hn; exact hn)) (fun u0 e => K0 u0 (by rw [e] at hn; exact (Option.some.inj hn).symm))
noncomputable def f_M_alikeAt_s4 (v1 : Int32) (v2 : Int32) (v3 : Int32) (h : xH) : Option ((Int32 × Int32) ⊕ Int32) :=
  if (h.1 12 2 0) < v3 then (
  some (Sum.inr (v2))) else (
  f_M_alikeAt_l18 v1 v2 v3 (0 : Int32) (0 : Int32) h)
set_option maxHeartbeats 4000000 in
set_option maxRecDepth 100000 in
theorem f_M_alikeAt_s4_ok {g : xG} {l : Launch} {d : Nat} {v1 : Int32} {v2 : Int32} {v3 : Int32} {h : xH} {o : ((Int32 × Int32) ⊕ Int32)} {R : Option xV} (hD : 0 ≤ d) (hf : f_M_alikeAt_s4 v1 v2 v3 h = some o) (K1 : ∀ (w2 : Int32) (w3 : Int32), o = Sum.inl (w2, w3) → xEv g l d 244 4 [(0, xr 12 (some 0)), (1, xi v1), (2, xi w2), (3, xi w3)] [] h R h) (K0 : ∀ (a : Int32), o = Sum.inr (a) → R = some (xi a)) : xEv g l d 244 4 [(0, xr 12 (some 0)), (1, xi v1), (2, xi v2), (3, xi v3)] [] h R h := by
  unfold f_M_alikeAt_s4 at hf
  refine xs_iload_n d244_4 rfl ?_
  refine xs_aload_n d244_5 rfl ?_
  refine xe_geti d244_6 ky244 fl163 fk12_2 ?_
  rcases lk_if hf with ⟨hc1, hf⟩ | ⟨hc1, hf⟩
  · refine xs_icmp_gt (tgt := 107) d244_9 (by decide) (fun _ => ?_) (fun hn => absurd hc1 hn)
    refine xs_iload_n d244_107 rfl ?_
    obtain eR := K0 _ (Option.some.inj hf).symm
    subst eR
    exact xs_iret d244_108 rt244
  · refine xs_icmp_gt (tgt := 107) d244_9 (by decide) (fun hp => absurd hp hc1) (fun _ => ?_)
    refine xs_iconst (v := 0) d244_12 (by decide) ?_
    refine xe_istore (v := (0 : Int32)) (ls2 := [(0, xr 12 (some 0)), (1, xi v1), (2, xi v2), (3, xi v3), (4, xi (0 : Int32))]) d244_13 mx244 (by decide) rfl rfl ?_
    refine xs_iconst (v := 0) d244_15 (by decide) ?_
    refine xe_istore (v := (0 : Int32)) (ls2 := [(0, xr 12 (some 0)), (1, xi v1), (2, xi v2), (3, xi v3), (4, xi (0 : Int32)), (5, xi (0 : Int32))]) d244_16 mx244 (by decide) rfl rfl ?_
    exact f_M_alikeAt_l18_ok hD hf K1 K0
noncomputable def f_M_alikeAt_l4 (v1 : Int32) (v2 : Int32) (v3 : Int32) (h : xH) : Option Int32 :=
  whl (fun s => f_M_alikeAt_s4 v1 s.1 s.2 h) (v2, v3)
theorem f_M_alikeAt_l4_ok {g : xG} {l : Launch} {d : Nat} {v1 : Int32} {v2 : Int32} {v3 : Int32} {h : xH} {o : Int32} {R : Option xV} (hD : 0 ≤ d) (hf : f_M_alikeAt_l4 v1 v2 v3 h = some o) (K0 : ∀ (a : Int32), o = a → R = some (xi a)) : xEv g l d 244 4 [(0, xr 12 (some 0)), (1, xi v1), (2, xi v2), (3, xi v3)] [] h R h := by
  obtain ⟨n, hn⟩ := whl_iff.mp hf
  clear hf
  induction n generalizing v2 v3 with
  | zero => cases hn
  | succ n ih =>
    obtain ⟨o2, hs, hn⟩ := lk_b (show (f_M_alikeAt_s4 v1 v2 v3 h).bind (fun o => Sum.elim (itn _ n) some o) = some o from hn)
    exact f_M_alikeAt_s4_ok hD hs (fun u0 u1 e => ih (by rw [e] at hn; exact hn)) (fun u0 e => K0 u0 (by rw [e] at hn; exact (Option.some.inj hn).symm))
noncomputable def f_M_alikeAt_e (v1 : Int32) (h : xH) : Option Int32 :=
  f_M_alikeAt_l4 v1 (0 : Int32) (0 : Int32) h
set_option maxHeartbeats 4000000 in
set_option maxRecDepth 100000 in
theorem f_M_alikeAt_e_ok {g : xG} {l : Launch} {d : Nat} {v1 : Int32} {h : xH} {o : Int32} {R : Option xV} (hD : 0 ≤ d) (hf : f_M_alikeAt_e v1 h = some o) (K0 : ∀ (a : Int32), o = a → R = some (xi a)) : xEv g l d 244 0 [(0, xr 12 (some 0)), (1, xi v1)] [] h R h := by
  unfold f_M_alikeAt_e at hf
  refine xs_iconst (v := 0) d244_0 (by decide) ?_
  refine xe_istore_n (v := (0 : Int32)) (ls2 := [(0, xr 12 (some 0)), (1, xi v1), (2, xi (0 : Int32))]) d244_1 mx244 (by decide) rfl rfl ?_
  refine xs_iconst (v := 0) d244_2 (by decide) ?_
  refine xe_istore_n (v := (0 : Int32)) (ls2 := [(0, xr 12 (some 0)), (1, xi v1), (2, xi (0 : Int32)), (3, xi (0 : Int32))]) d244_3 mx244 (by decide) rfl rfl ?_
  exact f_M_alikeAt_l4_ok hD hf K0
noncomputable def f_M_alikeAt (v1 : Int32) (h : xH) : Option Int32 := f_M_alikeAt_e v1 h
theorem f_M_alikeAt_ok {g : xG} {l : Launch} {d : Nat} {v1 : Int32} {h : xH} {r : Int32} (hD : 0 ≤ d) (hf : f_M_alikeAt v1 h = some r) : xC g l d 244 [xr 12 (some 0), xi v1] h (some (xi r)) h :=
  xC_of2 (by decide) mx244 (Nat.le_of_ble_eq_true rfl) (f_M_alikeAt_e_ok hD hf (fun _ e => by rw [e]))
theorem d245_0 : decode (xcode 245) 0 = .ok (.aload_n 0, 1) := by decide +kernel
theorem d245_1 : decode (xcode 245) 1 = .ok (.invokevirtual 349, 3) := by decide +kernel
theorem d245_4 : decode (xcode 245) 4 = .ok (.ifCond .eq 13, 3) := by decide +kernel
theorem d245_7 : decode (xcode 245) 7 = .ok (.iload_n 1, 1) := by decide +kernel
theorem d245_8 : decode (xcode 245) 8 = .ok (.i2l, 1) := by decide +kernel
theorem d245_9 : decode (xcode 245) 9 = .ok (.lconst 0, 1) := by decide +kernel
theorem d245_10 : decode (xcode 245) 10 = .ok (.lconst 1, 1) := by decide +kernel
theorem d245_11 : decode (xcode 245) 11 = .ok (.invokestatic 124, 3) := by decide +kernel
theorem d245_14 : decode (xcode 245) 14 = .ok (.ifCond .ne 5, 3) := by decide +kernel
theorem d245_17 : decode (xcode 245) 17 = .ok (.iconst (-1), 1) := by decide +kernel
theorem d245_18 : decode (xcode 245) 18 = .ok (.ireturn, 1) := by decide +kernel
theorem d245_19 : decode (xcode 245) 19 = .ok (.aload_n 0, 1) := by decide +kernel
theorem d245_20 : decode (xcode 245) 20 = .ok (.invokevirtual 435, 3) := by decide +kernel
theorem d245_23 : decode (xcode 245) 23 = .ok (.bipush (-2), 2) := by decide +kernel
theorem d245_25 : decode (xcode 245) 25 = .ok (.istore_n 2, 1) := by decide +kernel
theorem d245_26 : decode (xcode 245) 26 = .ok (.bipush (-2), 2) := by decide +kernel
theorem d245_28 : decode (xcode 245) 28 = .ok (.istore_n 3, 1) := by decide +kernel
theorem d245_29 : decode (xcode 245) 29 = .ok (.iconst 0, 1) := by decide +kernel
theorem d245_30 : decode (xcode 245) 30 = .ok (.istore 4, 2) := by decide +kernel
theorem d245_32 : decode (xcode 245) 32 = .ok (.iload 4, 2) := by decide +kernel
theorem d245_34 : decode (xcode 245) 34 = .ok (.bipush 60, 2) := by decide +kernel
theorem d245_36 : decode (xcode 245) 36 = .ok (.if_icmp .gt 41, 3) := by decide +kernel
theorem d245_39 : decode (xcode 245) 39 = .ok (.aload_n 0, 1) := by decide +kernel
theorem d245_40 : decode (xcode 245) 40 = .ok (.iload 4, 2) := by decide +kernel
theorem d245_42 : decode (xcode 245) 42 = .ok (.invokevirtual 438, 3) := by decide +kernel
theorem d245_45 : decode (xcode 245) 45 = .ok (.istore 5, 2) := by decide +kernel
theorem d245_47 : decode (xcode 245) 47 = .ok (.iload 5, 2) := by decide +kernel
theorem d245_49 : decode (xcode 245) 49 = .ok (.ifCond .eq 22, 3) := by decide +kernel
theorem d245_52 : decode (xcode 245) 52 = .ok (.iload_n 2, 1) := by decide +kernel
theorem d245_53 : decode (xcode 245) 53 = .ok (.ifCond .lt 12, 3) := by decide +kernel
theorem d245_56 : decode (xcode 245) 56 = .ok (.iload 5, 2) := by decide +kernel
theorem d245_58 : decode (xcode 245) 58 = .ok (.iload_n 3, 1) := by decide +kernel
theorem d245_59 : decode (xcode 245) 59 = .ok (.if_icmp .lt 6, 3) := by decide +kernel
theorem d245_62 : decode (xcode 245) 62 = .ok (.goto 9, 3) := by decide +kernel
theorem d245_65 : decode (xcode 245) 65 = .ok (.iload 4, 2) := by decide +kernel
theorem d245_67 : decode (xcode 245) 67 = .ok (.istore_n 2, 1) := by decide +kernel
theorem d245_68 : decode (xcode 245) 68 = .ok (.iload 5, 2) := by decide +kernel
theorem d245_70 : decode (xcode 245) 70 = .ok (.istore_n 3, 1) := by decide +kernel
theorem d245_71 : decode (xcode 245) 71 = .ok (.iinc 4 1, 3) := by decide +kernel
theorem d245_74 : decode (xcode 245) 74 = .ok (.goto (-42), 3) := by decide +kernel
theorem d245_77 : decode (xcode 245) 77 = .ok (.iload_n 1, 1) := by decide +kernel
theorem d245_78 : decode (xcode 245) 78 = .ok (.ifCond .ne 7, 3) := by decide +kernel
theorem d245_81 : decode (xcode 245) 81 = .ok (.iload_n 2, 1) := by decide +kernel
theorem d245_82 : decode (xcode 245) 82 = .ok (.goto 4, 3) := by decide +kernel
theorem d245_85 : decode (xcode 245) 85 = .ok (.iload_n 3, 1) := by decide +kernel
theorem d245_86 : decode (xcode 245) 86 = .ok (.ireturn, 1) := by decide +kernel
noncomputable def f_M_look_b77 (v1 : Int32) (v2 : Int32) (v3 : Int32) (h : xH) : Option (Int32 × xH) :=
  if v1 = (0 : Int32) then (
  some ((v2, h))) else (
  some ((v3, h)))
set_option maxHeartbeats 4000000 in
set_option maxRecDepth 100000 in
theorem f_M_look_b77_ok {g : xG} {l : Launch} {d : Nat} {v1 : Int32} {v2 : Int32} {v3 : Int32} {h : xH} {o : (Int32 × xH)} {R : Option xV} {H' : xH} (hD : 10 ≤ d) (hf : f_M_look_b77 v1 v2 v3 h = some o) (K0 : ∀ (a : Int32) (h1 : xH), o = (a, h1) → R = some (xi a) ∧ H' = h1) : xEv g l d 245 77 [(1, xi v1), (2, xi v2), (3, xi v3)] [] h R H' := by
  unfold f_M_look_b77 at hf
  refine xs_iload_n d245_77 rfl ?_
  rcases lk_if hf with ⟨hc11, hf⟩ | ⟨hc11, hf⟩
  · refine xs_if_ne (tgt := 85) d245_78 (by decide) (fun _ => ?_) (fun hn => absurd hc11 hn)
    refine xs_iload_n d245_81 rfl ?_
    refine xs_goto (tgt := 86) d245_82 (by decide) ?_
    obtain ⟨eR, eH⟩ := K0 _ _ (Option.some.inj hf).symm
    subst eR; subst eH
    exact xs_iret d245_86 rt245
  · refine xs_if_ne (tgt := 85) d245_78 (by decide) (fun hp => absurd hp hc11) (fun _ => ?_)
    refine xs_iload_n d245_85 rfl ?_
    obtain ⟨eR, eH⟩ := K0 _ _ (Option.some.inj hf).symm
    subst eR; subst eH
    exact xs_iret d245_86 rt245
noncomputable def f_M_look_b71 (v1 : Int32) (v2 : Int32) (v3 : Int32) (v4 : Int32) (h : xH) : Option ((Int32 × Int32 × Int32) ⊕ (Int32 × xH)) :=
  xlet (v4 + (1 : Int32)) fun v4_15 =>
  some (Sum.inl (v2, v3, v4_15))
set_option maxHeartbeats 4000000 in
set_option maxRecDepth 100000 in
theorem f_M_look_b71_ok {g : xG} {l : Launch} {d : Nat} {v1 : Int32} {v2 : Int32} {v3 : Int32} {v4 : Int32} {h : xH} {o : ((Int32 × Int32 × Int32) ⊕ (Int32 × xH))} {R : Option xV} {H' : xH} (hD : 10 ≤ d) (hf : f_M_look_b71 v1 v2 v3 v4 h = some o) (K1 : ∀ (w2 : Int32) (w3 : Int32) (w4 : Int32), o = Sum.inl (w2, w3, w4) → xEv g l d 245 32 [(0, xr 12 (some 0)), (1, xi v1), (2, xi w2), (3, xi w3), (4, xi w4)] [] h R H') (K0 : ∀ (a : Int32) (h1 : xH), o = Sum.inr ((a, h1)) → R = some (xi a) ∧ H' = h1) : xEv g l d 245 71 [(0, xr 12 (some 0)), (1, xi v1), (2, xi v2), (3, xi v3), (4, xi v4)] [] h R H' := by
  unfold f_M_look_b71 at hf
  obtain ⟨v4_15, ev4_15, hf⟩ := lk_let hf
  refine xe_iinc (v := v4_15) (b := 1) (ls2 := [(0, xr 12 (some 0)), (1, xi v1), (2, xi v2), (3, xi v3), (4, xi v4_15)]) d245_71 mx245 (by decide) rfl (by decide) ev4_15 rfl ?_
  refine xs_goto (tgt := 32) d245_74 (by decide) ?_
  exact K1 _ _ _ (Option.some.inj hf).symm
noncomputable def f_M_look_b65 (v1 : Int32) (v4 : Int32) (v5 : Int32) (h : xH) : Option ((Int32 × Int32 × Int32) ⊕ (Int32 × xH)) :=
  f_M_look_b71 v1 v4 v5 v4 h
set_option maxHeartbeats 4000000 in
set_option maxRecDepth 100000 in
theorem f_M_look_b65_ok {g : xG} {l : Launch} {d : Nat} {v1 : Int32} {v4 : Int32} {v5 : Int32} {h : xH} {o : ((Int32 × Int32 × Int32) ⊕ (Int32 × xH))} {R : Option xV} {H' : xH} (hD : 10 ≤ d) (hf : f_M_look_b65 v1 v4 v5 h = some o) (K1 : ∀ (w2 : Int32) (w3 : Int32) (w4 : Int32), o = Sum.inl (w2, w3, w4) → xEv g l d 245 32 [(0, xr 12 (some 0)), (1, xi v1), (2, xi w2), (3, xi w3), (4, xi w4)] [] h R H') (K0 : ∀ (a : Int32) (h1 : xH), o = Sum.inr ((a, h1)) → R = some (xi a) ∧ H' = h1) : xEv g l d 245 65 [(0, xr 12 (some 0)), (1, xi v1), (4, xi v4), (5, xi v5)] [] h R H' := by
  unfold f_M_look_b65 at hf
  refine xs_iload d245_65 rfl ?_
  refine xe_istore_n (v := v4) (ls2 := [(0, xr 12 (some 0)), (1, xi v1), (2, xi v4), (4, xi v4), (5, xi v5)]) d245_67 mx245 (by decide) rfl rfl ?_
  refine xs_iload d245_68 rfl ?_
  refine xe_istore_n (v := v5) (ls2 := [(0, xr 12 (some 0)), (1, xi v1), (2, xi v4), (3, xi v5), (4, xi v4), (5, xi v5)]) d245_70 mx245 (by decide) rfl rfl ?_
  refine xs_pick [0, 1, 2, 3, 4] rfl ?_
  exact f_M_look_b71_ok hD hf K1 K0
noncomputable def f_M_look_s32 (v1 : Int32) (v2 : Int32) (v3 : Int32) (v4 : Int32) (h : xH) : Option ((Int32 × Int32 × Int32) ⊕ (Int32 × xH)) :=
  if (60 : Int32) < v4 then (
  xup (f_M_look_b77 v1 v2 v3 h)) else (
  (f_M_alikeAt v4 h).bind fun r12 =>
  if r12 = (0 : Int32) then (
  f_M_look_b71 v1 v2 v3 v4 h) else (
  if v2 < (0 : Int32) then (
  f_M_look_b65 v1 v4 r12 h) else (
  if r12 < v3 then (
  f_M_look_b65 v1 v4 r12 h) else (
  f_M_look_b71 v1 v2 v3 v4 h))))
set_option maxHeartbeats 4000000 in
set_option maxRecDepth 100000 in
theorem f_M_look_s32_ok {g : xG} {l : Launch} {d : Nat} {v1 : Int32} {v2 : Int32} {v3 : Int32} {v4 : Int32} {h : xH} {o : ((Int32 × Int32 × Int32) ⊕ (Int32 × xH))} {R : Option xV} {H' : xH} (hD : 10 ≤ d) (hf : f_M_look_s32 v1 v2 v3 v4 h = some o) (K1 : ∀ (w2 : Int32) (w3 : Int32) (w4 : Int32), o = Sum.inl (w2, w3, w4) → xEv g l d 245 32 [(0, xr 12 (some 0)), (1, xi v1), (2, xi w2), (3, xi w3), (4, xi w4)] [] h R H') (K0 : ∀ (a : Int32) (h1 : xH), o = Sum.inr ((a, h1)) → R = some (xi a) ∧ H' = h1) : xEv g l d 245 32 [(0, xr 12 (some 0)), (1, xi v1), (2, xi v2), (3, xi v3), (4, xi v4)] [] h R H' := by
  unfold f_M_look_s32 at hf
  refine xs_iload d245_32 rfl ?_
  refine xs_bipush (v := 60) d245_34 (by decide) ?_
  rcases lk_if hf with ⟨hc10, hf⟩ | ⟨hc10, hf⟩
  · refine xs_icmp_gt (tgt := 77) d245_36 (by decide) (fun _ => ?_) (fun hn => absurd hc10 hn)
    refine xs_pick [1, 2, 3] rfl ?_
    obtain ⟨x0, hf, ex0⟩ := lk_up hf
    exact f_M_look_b77_ok hD hf (fun u0 u1 e => K0 u0 u1 (ex0.trans (congrArg Sum.inr e)))
  · refine xs_icmp_gt (tgt := 77) d245_36 (by decide) (fun hp => absurd hp hc10) (fun _ => ?_)
    refine xs_aload_n d245_39 rfl ?_
    refine xs_iload d245_40 rfl ?_
    obtain ⟨r12, hc13, hf⟩ := lk_b hf
    refine xe_callv1 (as := [xi v4]) (st := []) (h2 := h) (d2 := d - 1) d245_42 ky245 ml285 st244 (by decide) cn244 rfl na244 (Nat.le_of_ble_eq_true rfl) (by omega) (f_M_alikeAt_ok (by omega) hc13) ?_
    refine xe_istore (v := r12) (ls2 := [(0, xr 12 (some 0)), (1, xi v1), (2, xi v2), (3, xi v3), (4, xi v4), (5, xi r12)]) d245_45 mx245 (by decide) rfl rfl ?_
    refine xs_iload d245_47 rfl ?_
    rcases lk_if hf with ⟨hc14, hf⟩ | ⟨hc14, hf⟩
    · refine xs_if_eq (tgt := 71) d245_49 (by decide) (fun _ => ?_) (fun hn => absurd hc14 hn)
      refine xs_pick [0, 1, 2, 3, 4] rfl ?_
      exact f_M_look_b71_ok hD hf K1 K0
    · refine xs_if_eq (tgt := 71) d245_49 (by decide) (fun hp => absurd hp hc14) (fun _ => ?_)
      refine xs_iload_n d245_52 rfl ?_
      rcases lk_if hf with ⟨hc16, hf⟩ | ⟨hc16, hf⟩
      · refine xs_if_lt (tgt := 65) d245_53 (by decide) (fun _ => ?_) (fun hn => absurd hc16 hn)
        refine xs_pick [0, 1, 4, 5] rfl ?_
        exact f_M_look_b65_ok hD hf K1 K0
      · refine xs_if_lt (tgt := 65) d245_53 (by decide) (fun hp => absurd hp hc16) (fun _ => ?_)
        refine xs_iload d245_56 rfl ?_
        refine xs_iload_n d245_58 rfl ?_
        rcases lk_if hf with ⟨hc17, hf⟩ | ⟨hc17, hf⟩
        · refine xs_icmp_lt (tgt := 65) d245_59 (by decide) (fun _ => ?_) (fun hn => absurd hc17 hn)
          refine xs_pick [0, 1, 4, 5] rfl ?_
          exact f_M_look_b65_ok hD hf K1 K0
        · refine xs_icmp_lt (tgt := 65) d245_59 (by decide) (fun hp => absurd hp hc17) (fun _ => ?_)
          refine xs_goto (tgt := 71) d245_62 (by decide) ?_
          refine xs_pick [0, 1, 2, 3, 4] rfl ?_
          exact f_M_look_b71_ok hD hf K1 K0
noncomputable def f_M_look_l32 (v1 : Int32) (v2 : Int32) (v3 : Int32) (v4 : Int32) (h : xH) : Option (Int32 × xH) :=
  whl (fun s => f_M_look_s32 v1 s.1 s.2.1 s.2.2 h) (v2, v3, v4)
theorem f_M_look_l32_ok {g : xG} {l : Launch} {d : Nat} {v1 : Int32} {v2 : Int32} {v3 : Int32} {v4 : Int32} {h : xH} {o : (Int32 × xH)} {R : Option xV} {H' : xH} (hD : 10 ≤ d) (hf : f_M_look_l32 v1 v2 v3 v4 h = some o) (K0 : ∀ (a : Int32) (h1 : xH), o = (a, h1) → R = some (xi a) ∧ H' = h1) : xEv g l d 245 32 [(0, xr 12 (some 0)), (1, xi v1), (2, xi v2), (3, xi v3), (4, xi v4)] [] h R H' := by
  obtain ⟨n, hn⟩ := whl_iff.mp hf
  clear hf
  induction n generalizing v2 v3 v4 with
  | zero => cases hn
  | succ n ih =>
    obtain ⟨o2, hs, hn⟩ := lk_b (show (f_M_look_s32 v1 v2 v3 v4 h).bind (fun o => Sum.elim (itn _ n) some o) = some o from hn)
    exact f_M_look_s32_ok hD hs (fun u0 u1 u2 e => ih (by rw [e] at hn; exact hn)) (fun u0 u1 e => K0 u0 u1 (by rw [e] at hn; exact (Option.some.inj hn).symm))
noncomputable def f_M_look_e (v1 : Int32) (h : xH) : Option (Int32 × xH) :=
  (f_M_isTrug h).bind fun r1 =>
  if r1 = (0 : Int32) then (
  some (((-1 : Int32), h))) else (
  (f_M_in ((v1).toInt64) (0 : Int64) (1 : Int64) h).bind fun r4 =>
  if r4 = (0 : Int32) then (
  some (((-1 : Int32), h))) else (
  (f_M_fillsFits h).bind fun h9 =>
  f_M_look_l32 v1 (-2 : Int32) (-2 : Int32) (0 : Int32) h9))
set_option maxHeartbeats 4000000 in
set_option maxRecDepth 100000 in
theorem f_M_look_e_ok {g : xG} {l : Launch} {d : Nat} {v1 : Int32} {h : xH} {o : (Int32 × xH)} {R : Option xV} {H' : xH} (hD : 10 ≤ d) (hf : f_M_look_e v1 h = some o) (K0 : ∀ (a : Int32) (h1 : xH), o = (a, h1) → R = some (xi a) ∧ H' = h1) : xEv g l d 245 0 [(0, xr 12 (some 0)), (1, xi v1)] [] h R H' := by
  unfold f_M_look_e at hf
  refine xs_aload_n d245_0 rfl ?_
  obtain ⟨r1, hc2, hf⟩ := lk_b hf
  refine xe_callv1 (as := []) (st := []) (h2 := h) (d2 := d - 1) d245_1 ky245 ml225 st184 (by decide) cn184 rfl na184 (Nat.le_of_ble_eq_true rfl) (by omega) (f_M_isTrug_ok (by omega) hc2) ?_
  rcases lk_if hf with ⟨hc3, hf⟩ | ⟨hc3, hf⟩
  · refine xs_if_eq (tgt := 17) d245_4 (by decide) (fun _ => ?_) (fun hn => absurd hc3 hn)
    refine xs_iconst (v := -1) d245_17 (by decide) ?_
    obtain ⟨eR, eH⟩ := K0 _ _ (Option.some.inj hf).symm
    subst eR; subst eH
    exact xs_iret d245_18 rt245
  · refine xs_if_eq (tgt := 17) d245_4 (by decide) (fun hp => absurd hp hc3) (fun _ => ?_)
    refine xs_iload_n d245_7 rfl ?_
    refine xs_i2l d245_8 ?_
    refine xs_lconst (v := 0) d245_9 (by decide) ?_
    refine xs_lconst (v := 1) d245_10 (by decide) ?_
    obtain ⟨r4, hc5, hf⟩ := lk_b hf
    refine xe_calls1 (as := [xl ((v1).toInt64), xl (0 : Int64), xl (1 : Int64)]) (st := []) (h2 := h) (d2 := d - 1) d245_11 ky245 ml196 st139 rfl na139 (Nat.le_of_ble_eq_true rfl) (by omega) (f_M_in_ok (by omega) hc5) ?_
    rcases lk_if hf with ⟨hc6, hf⟩ | ⟨hc6, hf⟩
    · refine xs_if_ne (tgt := 19) d245_14 (by decide) (fun _ => ?_) (fun hn => absurd hc6 hn)
      refine xs_iconst (v := -1) d245_17 (by decide) ?_
      obtain ⟨eR, eH⟩ := K0 _ _ (Option.some.inj hf).symm
      subst eR; subst eH
      exact xs_iret d245_18 rt245
    · refine xs_if_ne (tgt := 19) d245_14 (by decide) (fun hp => absurd hp hc6) (fun _ => ?_)
      refine xs_aload_n d245_19 rfl ?_
      obtain ⟨h9, hc8, hf⟩ := lk_b hf
      refine xe_callv0 (as := []) (st := []) (h2 := h9) (d2 := d - 1) d245_20 ky245 ml281 st242 (by decide) cn242 rfl na242 (Nat.le_of_ble_eq_true rfl) (by omega) (f_M_fillsFits_ok (by omega) hc8) ?_
      refine xs_bipush (v := -2) d245_23 (by decide) ?_
      refine xe_istore_n (v := (-2 : Int32)) (ls2 := [(0, xr 12 (some 0)), (1, xi v1), (2, xi (-2 : Int32))]) d245_25 mx245 (by decide) rfl rfl ?_
      refine xs_bipush (v := -2) d245_26 (by decide) ?_
      refine xe_istore_n (v := (-2 : Int32)) (ls2 := [(0, xr 12 (some 0)), (1, xi v1), (2, xi (-2 : Int32)), (3, xi (-2 : Int32))]) d245_28 mx245 (by decide) rfl rfl ?_
      refine xs_iconst (v := 0) d245_29 (by decide) ?_
      refine xe_istore (v := (0 : Int32)) (ls2 := [(0, xr 12 (some 0)), (1, xi v1), (2, xi (-2 : Int32)), (3, xi (-2 : Int32)), (4, xi (0 : Int32))]) d245_30 mx245 (by decide) rfl rfl ?_
      exact f_M_look_l32_ok hD hf K0
noncomputable def f_M_look (v1 : Int32) (h : xH) : Option (Int32 × xH) := f_M_look_e v1 h
theorem f_M_look_ok {g : xG} {l : Launch} {d : Nat} {v1 : Int32} {h : xH} {r : Int32} {h1 : xH} (hD : 10 ≤ d) (hf : f_M_look v1 h = some (r, h1)) : xC g l d 245 [xr 12 (some 0), xi v1] h (some (xi r)) h1 :=
  xC_of2 (by decide) mx245 (Nat.le_of_ble_eq_true rfl) (f_M_look_e_ok hD hf (fun _ _ e => by cases e; exact ⟨rfl, rfl⟩))
theorem d246_0 : decode (xcode 246) 0 = .ok (.aload_n 0, 1) := by decide +kernel
theorem d246_1 : decode (xcode 246) 1 = .ok (.iload_n 1, 1) := by decide +kernel
theorem d246_2 : decode (xcode 246) 2 = .ok (.invokevirtual 290, 3) := by decide +kernel
theorem d246_5 : decode (xcode 246) 5 = .ok (.ifCond .eq 13, 3) := by decide +kernel
theorem d246_8 : decode (xcode 246) 8 = .ok (.iload_n 2, 1) := by decide +kernel
theorem d246_9 : decode (xcode 246) 9 = .ok (.i2l, 1) := by decide +kernel
theorem d246_10 : decode (xcode 246) 10 = .ok (.lconst 0, 1) := by decide +kernel
theorem d246_11 : decode (xcode 246) 11 = .ok (.lconst 1, 1) := by decide +kernel
theorem d246_12 : decode (xcode 246) 12 = .ok (.invokestatic 124, 3) := by decide +kernel
theorem d246_15 : decode (xcode 246) 15 = .ok (.ifCond .ne 5, 3) := by decide +kernel
theorem d246_18 : decode (xcode 246) 18 = .ok (.iconst (-1), 1) := by decide +kernel
theorem d246_19 : decode (xcode 246) 19 = .ok (.ireturn, 1) := by decide +kernel
theorem d246_20 : decode (xcode 246) 20 = .ok (.aload_n 0, 1) := by decide +kernel
theorem d246_21 : decode (xcode 246) 21 = .ok (.getfield 39, 3) := by decide +kernel
theorem d246_24 : decode (xcode 246) 24 = .ok (.bipush 44, 2) := by decide +kernel
theorem d246_26 : decode (xcode 246) 26 = .ok (.iload_n 1, 1) := by decide +kernel
theorem d246_27 : decode (xcode 246) 27 = .ok (.iadd, 1) := by decide +kernel
theorem d246_28 : decode (xcode 246) 28 = .ok (.iaload, 1) := by decide +kernel
theorem d246_29 : decode (xcode 246) 29 = .ok (.istore_n 3, 1) := by decide +kernel
theorem d246_30 : decode (xcode 246) 30 = .ok (.iconst 0, 1) := by decide +kernel
theorem d246_31 : decode (xcode 246) 31 = .ok (.istore 4, 2) := by decide +kernel
theorem d246_33 : decode (xcode 246) 33 = .ok (.bipush (-2), 2) := by decide +kernel
theorem d246_35 : decode (xcode 246) 35 = .ok (.istore 5, 2) := by decide +kernel
theorem d246_37 : decode (xcode 246) 37 = .ok (.aload_n 0, 1) := by decide +kernel
theorem d246_38 : decode (xcode 246) 38 = .ok (.invokevirtual 363, 3) := by decide +kernel
theorem d246_41 : decode (xcode 246) 41 = .ok (.bipush 40, 2) := by decide +kernel
theorem d246_43 : decode (xcode 246) 43 = .ok (.istore 6, 2) := by decide +kernel
theorem d246_45 : decode (xcode 246) 45 = .ok (.iload 6, 2) := by decide +kernel
theorem d246_47 : decode (xcode 246) 47 = .ok (.ifCond .le 42, 3) := by decide +kernel
theorem d246_50 : decode (xcode 246) 50 = .ok (.aload_n 0, 1) := by decide +kernel
theorem d246_51 : decode (xcode 246) 51 = .ok (.getfield 39, 3) := by decide +kernel
theorem d246_54 : decode (xcode 246) 54 = .ok (.bipush 44, 2) := by decide +kernel
theorem d246_56 : decode (xcode 246) 56 = .ok (.iload_n 1, 1) := by decide +kernel
theorem d246_57 : decode (xcode 246) 57 = .ok (.iadd, 1) := by decide +kernel
theorem d246_58 : decode (xcode 246) 58 = .ok (.iload 6, 2) := by decide +kernel
theorem d246_60 : decode (xcode 246) 60 = .ok (.iastore, 1) := by decide +kernel
theorem d246_61 : decode (xcode 246) 61 = .ok (.aload_n 0, 1) := by decide +kernel
theorem d246_62 : decode (xcode 246) 62 = .ok (.invokevirtual 269, 3) := by decide +kernel
theorem d246_65 : decode (xcode 246) 65 = .ok (.aload_n 0, 1) := by decide +kernel
theorem d246_66 : decode (xcode 246) 66 = .ok (.iconst 0, 1) := by decide +kernel
theorem d246_67 : decode (xcode 246) 67 = .ok (.invokevirtual 432, 3) := by decide +kernel
theorem d246_70 : decode (xcode 246) 70 = .ok (.ifCond .ne 6, 3) := by decide +kernel
theorem d246_73 : decode (xcode 246) 73 = .ok (.goto 10, 3) := by decide +kernel
theorem d246_76 : decode (xcode 246) 76 = .ok (.iload 6, 2) := by decide +kernel
theorem d246_78 : decode (xcode 246) 78 = .ok (.istore 5, 2) := by decide +kernel
theorem d246_80 : decode (xcode 246) 80 = .ok (.iinc 4 1, 3) := by decide +kernel
theorem d246_83 : decode (xcode 246) 83 = .ok (.iinc 6 (-1), 3) := by decide +kernel
theorem d246_86 : decode (xcode 246) 86 = .ok (.goto (-41), 3) := by decide +kernel
theorem d246_89 : decode (xcode 246) 89 = .ok (.aload_n 0, 1) := by decide +kernel
theorem d246_90 : decode (xcode 246) 90 = .ok (.getfield 39, 3) := by decide +kernel
theorem d246_93 : decode (xcode 246) 93 = .ok (.bipush 44, 2) := by decide +kernel
theorem d246_95 : decode (xcode 246) 95 = .ok (.iload_n 1, 1) := by decide +kernel
theorem d246_96 : decode (xcode 246) 96 = .ok (.iadd, 1) := by decide +kernel
theorem d246_97 : decode (xcode 246) 97 = .ok (.iload_n 3, 1) := by decide +kernel
theorem d246_98 : decode (xcode 246) 98 = .ok (.iastore, 1) := by decide +kernel
theorem d246_99 : decode (xcode 246) 99 = .ok (.aload_n 0, 1) := by decide +kernel
theorem d246_100 : decode (xcode 246) 100 = .ok (.invokevirtual 369, 3) := by decide +kernel
theorem d246_103 : decode (xcode 246) 103 = .ok (.iload_n 2, 1) := by decide +kernel
theorem d246_104 : decode (xcode 246) 104 = .ok (.ifCond .ne 8, 3) := by decide +kernel
theorem d246_107 : decode (xcode 246) 107 = .ok (.iload 4, 2) := by decide +kernel
theorem d246_109 : decode (xcode 246) 109 = .ok (.goto 5, 3) := by decide +kernel
theorem d246_112 : decode (xcode 246) 112 = .ok (.iload 5, 2) := by decide +kernel
theorem d246_114 : decode (xcode 246) 114 = .ok (.ireturn, 1) := by decide +kernel
noncomputable def f_M_took_b89 (v1 : Int32) (v2 : Int32) (v3 : Int32) (v4 : Int32) (v5 : Int32) (h : xH) : Option (Int32 × xH) :=
  if xib ((44 : Int32) + v1) 101 then (
  xlet (xsA h 56 0 (upd (h.2.2.2.1 56 0) ((44 : Int32) + v1).toNatClampNeg v3)) fun h14 =>
  (f_M_laysBack h14).bind fun h17 =>
  if v2 = (0 : Int32) then (
  some ((v4, h17))) else (
  some ((v5, h17)))) else none
set_option maxHeartbeats 4000000 in
set_option maxRecDepth 100000 in
theorem f_M_took_b89_ok {g : xG} {l : Launch} {d : Nat} {v1 : Int32} {v2 : Int32} {v3 : Int32} {v4 : Int32} {v5 : Int32} {h : xH} {o : (Int32 × xH)} {R : Option xV} {H' : xH} (hD : 9 ≤ d) (hf : f_M_took_b89 v1 v2 v3 v4 v5 h = some o) (K0 : ∀ (a : Int32) (h1 : xH), o = (a, h1) → R = some (xi a) ∧ H' = h1) : xEv g l d 246 89 [(0, xr 12 (some 0)), (1, xi v1), (2, xi v2), (3, xi v3), (4, xi v4), (5, xi v5)] [] h R H' := by
  unfold f_M_took_b89 at hf
  refine xs_aload_n d246_89 rfl ?_
  refine xe_getc (j := 0) d246_90 ky246 fl181 fk12_20 rfl ?_
  refine xs_bipush (v := 44) d246_93 (by decide) ?_
  refine xs_iload_n d246_95 rfl ?_
  refine xs_iadd d246_96 ?_
  refine xs_iload_n d246_97 rfl ?_
  obtain ⟨hin13, hf⟩ := lk_g hf
  obtain ⟨h14, eh14, hf⟩ := lk_let hf
  refine xe_iast d246_98 (by decide) ak56 hin13  eh14 ?_
  refine xs_aload_n d246_99 rfl ?_
  obtain ⟨h17, hc16, hf⟩ := lk_b hf
  refine xe_callv0 (as := []) (st := []) (h2 := h17) (d2 := d - 1) d246_100 ky246 ml254 st213 (by decide) cn213 rfl na213 (Nat.le_of_ble_eq_true rfl) (by omega) (f_M_laysBack_ok (by omega) hc16) ?_
  refine xs_iload_n d246_103 rfl ?_
  rcases lk_if hf with ⟨hc18, hf⟩ | ⟨hc18, hf⟩
  · refine xs_if_ne (tgt := 112) d246_104 (by decide) (fun _ => ?_) (fun hn => absurd hc18 hn)
    refine xs_iload d246_107 rfl ?_
    refine xs_goto (tgt := 114) d246_109 (by decide) ?_
    obtain ⟨eR, eH⟩ := K0 _ _ (Option.some.inj hf).symm
    subst eR; subst eH
    exact xs_iret d246_114 rt246
  · refine xs_if_ne (tgt := 112) d246_104 (by decide) (fun hp => absurd hp hc18) (fun _ => ?_)
    refine xs_iload d246_112 rfl ?_
    obtain ⟨eR, eH⟩ := K0 _ _ (Option.some.inj hf).symm
    subst eR; subst eH
    exact xs_iret d246_114 rt246
noncomputable def f_M_took_b83 (v1 : Int32) (v2 : Int32) (v3 : Int32) (v4 : Int32) (v5 : Int32) (v6 : Int32) (h : xH) : Option ((Int32 × Int32 × Int32 × xH) ⊕ (Int32 × xH)) :=
  xlet (v6 + (-1 : Int32)) fun v6_28 =>
  some (Sum.inl (v4, v5, v6_28, h))
set_option maxHeartbeats 4000000 in
set_option maxRecDepth 100000 in
theorem f_M_took_b83_ok {g : xG} {l : Launch} {d : Nat} {v1 : Int32} {v2 : Int32} {v3 : Int32} {v4 : Int32} {v5 : Int32} {v6 : Int32} {h : xH} {o : ((Int32 × Int32 × Int32 × xH) ⊕ (Int32 × xH))} {R : Option xV} {H' : xH} (hD : 9 ≤ d) (hf : f_M_took_b83 v1 v2 v3 v4 v5 v6 h = some o) (K1 : ∀ (w4 : Int32) (w5 : Int32) (w6 : Int32) (h1 : xH), o = Sum.inl (w4, w5, w6, h1) → xEv g l d 246 45 [(0, xr 12 (some 0)), (1, xi v1), (2, xi v2), (3, xi v3), (4, xi w4), (5, xi w5), (6, xi w6)] [] h1 R H') (K0 : ∀ (a : Int32) (h1 : xH), o = Sum.inr ((a, h1)) → R = some (xi a) ∧ H' = h1) : xEv g l d 246 83 [(0, xr 12 (some 0)), (1, xi v1), (2, xi v2), (3, xi v3), (4, xi v4), (5, xi v5), (6, xi v6)] [] h R H' := by
  unfold f_M_took_b83 at hf
  obtain ⟨v6_28, ev6_28, hf⟩ := lk_let hf
  refine xe_iinc (v := v6_28) (b := -1) (ls2 := [(0, xr 12 (some 0)), (1, xi v1), (2, xi v2), (3, xi v3), (4, xi v4), (5, xi v5), (6, xi v6_28)]) d246_83 mx246 (by decide) rfl (by decide) ev6_28 rfl ?_
  refine xs_goto (tgt := 45) d246_86 (by decide) ?_
  exact K1 _ _ _ _ (Option.some.inj hf).symm
noncomputable def f_M_took_s45 (v1 : Int32) (v2 : Int32) (v3 : Int32) (v4 : Int32) (v5 : Int32) (v6 : Int32) (h : xH) : Option ((Int32 × Int32 × Int32 × xH) ⊕ (Int32 × xH)) :=
  if v6 ≤ (0 : Int32) then (
  xup (f_M_took_b89 v1 v2 v3 v4 v5 h)) else (
  if xib ((44 : Int32) + v1) 101 then (
  xlet (xsA h 56 0 (upd (h.2.2.2.1 56 0) ((44 : Int32) + v1).toNatClampNeg v6)) fun h20 =>
  (f_M_begins h20).bind fun h23 =>
  (f_M_areAllSo (0 : Int32) h23).bind fun q26 =>
  if q26.1 = (0 : Int32) then (
  f_M_took_b83 v1 v2 v3 v4 v5 v6 q26.2) else (
  xlet (v4 + (1 : Int32)) fun v4_29 =>
  f_M_took_b83 v1 v2 v3 v4_29 v6 v6 q26.2)) else none)
set_option maxHeartbeats 4000000 in
set_option maxRecDepth 100000 in
theorem f_M_took_s45_ok {g : xG} {l : Launch} {d : Nat} {v1 : Int32} {v2 : Int32} {v3 : Int32} {v4 : Int32} {v5 : Int32} {v6 : Int32} {h : xH} {o : ((Int32 × Int32 × Int32 × xH) ⊕ (Int32 × xH))} {R : Option xV} {H' : xH} (hD : 9 ≤ d) (hf : f_M_took_s45 v1 v2 v3 v4 v5 v6 h = some o) (K1 : ∀ (w4 : Int32) (w5 : Int32) (w6 : Int32) (h1 : xH), o = Sum.inl (w4, w5, w6, h1) → xEv g l d 246 45 [(0, xr 12 (some 0)), (1, xi v1), (2, xi v2), (3, xi v3), (4, xi w4), (5, xi w5), (6, xi w6)] [] h1 R H') (K0 : ∀ (a : Int32) (h1 : xH), o = Sum.inr ((a, h1)) → R = some (xi a) ∧ H' = h1) : xEv g l d 246 45 [(0, xr 12 (some 0)), (1, xi v1), (2, xi v2), (3, xi v3), (4, xi v4), (5, xi v5), (6, xi v6)] [] h R H' := by
  unfold f_M_took_s45 at hf
  refine xs_iload d246_45 rfl ?_
  rcases lk_if hf with ⟨hc12, hf⟩ | ⟨hc12, hf⟩
  · refine xs_if_le (tgt := 89) d246_47 (by decide) (fun _ => ?_) (fun hn => absurd hc12 hn)
    refine xs_pick [0, 1, 2, 3, 4, 5] rfl ?_
    obtain ⟨x0, hf, ex0⟩ := lk_up hf
    exact f_M_took_b89_ok hD hf (fun u0 u1 e => K0 u0 u1 (ex0.trans (congrArg Sum.inr e)))
  · refine xs_if_le (tgt := 89) d246_47 (by decide) (fun hp => absurd hp hc12) (fun _ => ?_)
    refine xs_aload_n d246_50 rfl ?_
    refine xe_getc (j := 0) d246_51 ky246 fl181 fk12_20 rfl ?_
    refine xs_bipush (v := 44) d246_54 (by decide) ?_
    refine xs_iload_n d246_56 rfl ?_
    refine xs_iadd d246_57 ?_
    refine xs_iload d246_58 rfl ?_
    obtain ⟨hin19, hf⟩ := lk_g hf
    obtain ⟨h20, eh20, hf⟩ := lk_let hf
    refine xe_iast d246_60 (by decide) ak56 hin19  eh20 ?_
    refine xs_aload_n d246_61 rfl ?_
    obtain ⟨h23, hc22, hf⟩ := lk_b hf
    refine xe_callv0 (as := []) (st := []) (h2 := h23) (d2 := d - 1) d246_62 ky246 ml217 st194 (by decide) cn194 rfl na194 (Nat.le_of_ble_eq_true rfl) (by omega) (f_M_begins_ok (by omega) hc22) ?_
    refine xs_aload_n d246_65 rfl ?_
    refine xs_iconst (v := 0) d246_66 (by decide) ?_
    obtain ⟨q26, hc25, hf⟩ := lk_b hf
    refine xe_callv1 (as := [xi (0 : Int32)]) (st := []) (h2 := q26.2) (d2 := d - 1) d246_67 ky246 ml282 st241 (by decide) cn241 rfl na241 (Nat.le_of_ble_eq_true rfl) (by omega) (f_M_areAllSo_ok (by omega) hc25) ?_
    rcases lk_if hf with ⟨hc27, hf⟩ | ⟨hc27, hf⟩
    · refine xs_if_ne (tgt := 76) d246_70 (by decide) (fun _ => ?_) (fun hn => absurd hc27 hn)
      refine xs_goto (tgt := 83) d246_73 (by decide) ?_
      exact f_M_took_b83_ok hD hf K1 K0
    · refine xs_if_ne (tgt := 76) d246_70 (by decide) (fun hp => absurd hp hc27) (fun _ => ?_)
      refine xs_iload d246_76 rfl ?_
      refine xe_istore (v := v6) (ls2 := [(0, xr 12 (some 0)), (1, xi v1), (2, xi v2), (3, xi v3), (4, xi v4), (5, xi v6), (6, xi v6)]) d246_78 mx246 (by decide) rfl rfl ?_
      obtain ⟨v4_29, ev4_29, hf⟩ := lk_let hf
      refine xe_iinc (v := v4_29) (b := 1) (ls2 := [(0, xr 12 (some 0)), (1, xi v1), (2, xi v2), (3, xi v3), (4, xi v4_29), (5, xi v6), (6, xi v6)]) d246_80 mx246 (by decide) rfl (by decide) ev4_29 rfl ?_
      exact f_M_took_b83_ok hD hf K1 K0
noncomputable def f_M_took_l45 (v1 : Int32) (v2 : Int32) (v3 : Int32) (v4 : Int32) (v5 : Int32) (v6 : Int32) (h : xH) : Option (Int32 × xH) :=
  whl (fun s => f_M_took_s45 v1 v2 v3 s.1 s.2.1 s.2.2.1 s.2.2.2) (v4, v5, v6, h)
theorem f_M_took_l45_ok {g : xG} {l : Launch} {d : Nat} {v1 : Int32} {v2 : Int32} {v3 : Int32} {v4 : Int32} {v5 : Int32} {v6 : Int32} {h : xH} {o : (Int32 × xH)} {R : Option xV} {H' : xH} (hD : 9 ≤ d) (hf : f_M_took_l45 v1 v2 v3 v4 v5 v6 h = some o) (K0 : ∀ (a : Int32) (h1 : xH), o = (a, h1) → R = some (xi a) ∧ H' = h1) : xEv g l d 246 45 [(0, xr 12 (some 0)), (1, xi v1), (2, xi v2), (3, xi v3), (4, xi v4), (5, xi v5), (6, xi v6)] [] h R H' := by
  obtain ⟨n, hn⟩ := whl_iff.mp hf
  clear hf
  induction n generalizing v4 v5 v6 h with
  | zero => cases hn
  | succ n ih =>
    obtain ⟨o2, hs, hn⟩ := lk_b (show (f_M_took_s45 v1 v2 v3 v4 v5 v6 h).bind (fun o => Sum.elim (itn _ n) some o) = some o from hn)
    exact f_M_took_s45_ok hD hs (fun u0 u1 u2 u3 e => ih (by rw [e] at hn; exact hn)) (fun u0 u1 e => K0 u0 u1 (by rw [e] at hn; exact (Option.some.inj hn).symm))
noncomputable def f_M_took_e (v1 : Int32) (v2 : Int32) (h : xH) : Option (Int32 × xH) :=
  (f_M_isSorrow v1 h).bind fun r1 =>
  if r1 = (0 : Int32) then (
  some (((-1 : Int32), h))) else (
  (f_M_in ((v2).toInt64) (0 : Int64) (1 : Int64) h).bind fun r4 =>
  if r4 = (0 : Int32) then (
  some (((-1 : Int32), h))) else (
  if xib ((44 : Int32) + v1) 101 then (
  xlet (h.2.2.2.1 56 0 ((44 : Int32) + v1).toNatClampNeg) fun v3_8 =>
  (f_M_keeps h).bind fun h11 =>
  f_M_took_l45 v1 v2 v3_8 (0 : Int32) (-2 : Int32) (40 : Int32) h11) else none))
set_option maxHeartbeats 4000000 in
set_option maxRecDepth 100000 in
theorem f_M_took_e_ok {g : xG} {l : Launch} {d : Nat} {v1 : Int32} {v2 : Int32} {h : xH} {o : (Int32 × xH)} {R : Option xV} {H' : xH} (hD : 9 ≤ d) (hf : f_M_took_e v1 v2 h = some o) (K0 : ∀ (a : Int32) (h1 : xH), o = (a, h1) → R = some (xi a) ∧ H' = h1) : xEv g l d 246 0 [(0, xr 12 (some 0)), (1, xi v1), (2, xi v2)] [] h R H' := by
  unfold f_M_took_e at hf
  refine xs_aload_n d246_0 rfl ?_
  refine xs_iload_n d246_1 rfl ?_
  obtain ⟨r1, hc2, hf⟩ := lk_b hf
  refine xe_callv1 (as := [xi v1]) (st := []) (h2 := h) (d2 := d - 1) d246_2 ky246 ml221 st185 (by decide) cn185 rfl na185 (Nat.le_of_ble_eq_true rfl) (by omega) (f_M_isSorrow_ok (by omega) hc2) ?_
  rcases lk_if hf with ⟨hc3, hf⟩ | ⟨hc3, hf⟩
  · refine xs_if_eq (tgt := 18) d246_5 (by decide) (fun _ => ?_) (fun hn => absurd hc3 hn)
    refine xs_iconst (v := -1) d246_18 (by decide) ?_
    obtain ⟨eR, eH⟩ := K0 _ _ (Option.some.inj hf).symm
    subst eR; subst eH
    exact xs_iret d246_19 rt246
  · refine xs_if_eq (tgt := 18) d246_5 (by decide) (fun hp => absurd hp hc3) (fun _ => ?_)
    refine xs_iload_n d246_8 rfl ?_
    refine xs_i2l d246_9 ?_
    refine xs_lconst (v := 0) d246_10 (by decide) ?_
    refine xs_lconst (v := 1) d246_11 (by decide) ?_
    obtain ⟨r4, hc5, hf⟩ := lk_b hf
    refine xe_calls1 (as := [xl ((v2).toInt64), xl (0 : Int64), xl (1 : Int64)]) (st := []) (h2 := h) (d2 := d - 1) d246_12 ky246 ml196 st139 rfl na139 (Nat.le_of_ble_eq_true rfl) (by omega) (f_M_in_ok (by omega) hc5) ?_
    rcases lk_if hf with ⟨hc6, hf⟩ | ⟨hc6, hf⟩
    · refine xs_if_ne (tgt := 20) d246_15 (by decide) (fun _ => ?_) (fun hn => absurd hc6 hn)
      refine xs_iconst (v := -1) d246_18 (by decide) ?_
      obtain ⟨eR, eH⟩ := K0 _ _ (Option.some.inj hf).symm
      subst eR; subst eH
      exact xs_iret d246_19 rt246
    · refine xs_if_ne (tgt := 20) d246_15 (by decide) (fun hp => absurd hp hc6) (fun _ => ?_)
      refine xs_aload_n d246_20 rfl ?_
      refine xe_getc (j := 0) d246_21 ky246 fl181 fk12_20 rfl ?_
      refine xs_bipush (v := 44) d246_24 (by decide) ?_
      refine xs_iload_n d246_26 rfl ?_
      refine xs_iadd d246_27 ?_
      obtain ⟨hin7, hf⟩ := lk_g hf
      refine xe_iald d246_28 (by decide) ak56 hin7 ?_
      obtain ⟨v3_8, ev3_8, hf⟩ := lk_let hf
      refine xe_istore_n (v := v3_8) (ls2 := [(0, xr 12 (some 0)), (1, xi v1), (2, xi v2), (3, xi v3_8)]) d246_29 mx246 (by decide) ev3_8 rfl ?_
      refine xs_iconst (v := 0) d246_30 (by decide) ?_
      refine xe_istore (v := (0 : Int32)) (ls2 := [(0, xr 12 (some 0)), (1, xi v1), (2, xi v2), (3, xi v3_8), (4, xi (0 : Int32))]) d246_31 mx246 (by decide) rfl rfl ?_
      refine xs_bipush (v := -2) d246_33 (by decide) ?_
      refine xe_istore (v := (-2 : Int32)) (ls2 := [(0, xr 12 (some 0)), (1, xi v1), (2, xi v2), (3, xi v3_8), (4, xi (0 : Int32)), (5, xi (-2 : Int32))]) d246_35 mx246 (by decide) rfl rfl ?_
      refine xs_aload_n d246_37 rfl ?_
      obtain ⟨h11, hc10, hf⟩ := lk_b hf
      refine xe_callv0 (as := []) (st := []) (h2 := h11) (d2 := d - 1) d246_38 ky246 ml252 st212 (by decide) cn212 rfl na212 (Nat.le_of_ble_eq_true rfl) (by omega) (f_M_keeps_ok (by omega) hc10) ?_
      refine xs_bipush (v := 40) d246_41 (by decide) ?_
      refine xe_istore (v := (40 : Int32)) (ls2 := [(0, xr 12 (some 0)), (1, xi v1), (2, xi v2), (3, xi v3_8), (4, xi (0 : Int32)), (5, xi (-2 : Int32)), (6, xi (40 : Int32))]) d246_43 mx246 (by decide) rfl rfl ?_
      exact f_M_took_l45_ok hD hf K0
noncomputable def f_M_took (v1 : Int32) (v2 : Int32) (h : xH) : Option (Int32 × xH) := f_M_took_e v1 v2 h
theorem f_M_took_ok {g : xG} {l : Launch} {d : Nat} {v1 : Int32} {v2 : Int32} {h : xH} {r : Int32} {h1 : xH} (hD : 9 ≤ d) (hf : f_M_took v1 v2 h = some (r, h1)) : xC g l d 246 [xr 12 (some 0), xi v1, xi v2] h (some (xi r)) h1 :=
  xC_of2 (by decide) mx246 (Nat.le_of_ble_eq_true rfl) (f_M_took_e_ok hD hf (fun _ _ e => by cases e; exact ⟨rfl, rfl⟩))
theorem d247_0 : decode (xcode 247) 0 = .ok (.iload_n 1, 1) := by decide +kernel
theorem d247_1 : decode (xcode 247) 1 = .ok (.ifCond .ge 5, 3) := by decide +kernel
theorem d247_4 : decode (xcode 247) 4 = .ok (.iconst (-1), 1) := by decide +kernel
theorem d247_5 : decode (xcode 247) 5 = .ok (.ireturn, 1) := by decide +kernel
theorem d247_6 : decode (xcode 247) 6 = .ok (.aload_n 0, 1) := by decide +kernel
theorem d247_7 : decode (xcode 247) 7 = .ok (.getfield 441, 3) := by decide +kernel
theorem d247_10 : decode (xcode 247) 10 = .ok (.istore_n 2, 1) := by decide +kernel
theorem d247_11 : decode (xcode 247) 11 = .ok (.aload_n 0, 1) := by decide +kernel
theorem d247_12 : decode (xcode 247) 12 = .ok (.iload_n 1, 1) := by decide +kernel
theorem d247_13 : decode (xcode 247) 13 = .ok (.putfield 441, 3) := by decide +kernel
theorem d247_16 : decode (xcode 247) 16 = .ok (.iload_n 2, 1) := by decide +kernel
theorem d247_17 : decode (xcode 247) 17 = .ok (.ireturn, 1) := by decide +kernel
noncomputable def f_M_seed_e (v1 : Int32) (h : xH) : Option (Int32 × xH) :=
  if (0 : Int32) ≤ v1 then (
  xlet (h.1 12 22 0) fun v2_2 =>
  xlet (xsI h 12 22 0 v1) fun h3 =>
  some ((v2_2, h3))) else (
  some (((-1 : Int32), h)))
set_option maxHeartbeats 4000000 in
set_option maxRecDepth 100000 in
theorem f_M_seed_e_ok {g : xG} {l : Launch} {d : Nat} {v1 : Int32} {h : xH} {o : (Int32 × xH)} {R : Option xV} {H' : xH} (hD : 0 ≤ d) (hf : f_M_seed_e v1 h = some o) (K0 : ∀ (a : Int32) (h1 : xH), o = (a, h1) → R = some (xi a) ∧ H' = h1) : xEv g l d 247 0 [(0, xr 12 (some 0)), (1, xi v1)] [] h R H' := by
  unfold f_M_seed_e at hf
  refine xs_iload_n d247_0 rfl ?_
  rcases lk_if hf with ⟨hc1, hf⟩ | ⟨hc1, hf⟩
  · refine xs_if_ge (tgt := 6) d247_1 (by decide) (fun _ => ?_) (fun hn => absurd hc1 hn)
    refine xs_aload_n d247_6 rfl ?_
    refine xe_geti d247_7 ky247 fl183 fk12_22 ?_
    obtain ⟨v2_2, ev2_2, hf⟩ := lk_let hf
    refine xe_istore_n (v := v2_2) (ls2 := [(0, xr 12 (some 0)), (1, xi v1), (2, xi v2_2)]) d247_10 mx247 (by decide) ev2_2 rfl ?_
    refine xs_aload_n d247_11 rfl ?_
    refine xs_iload_n d247_12 rfl ?_
    obtain ⟨h3, eh3, hf⟩ := lk_let hf
    refine xe_puti d247_13 ky247 fl183 fk12_22 ft12_22 eh3 ?_
    refine xs_iload_n d247_16 rfl ?_
    obtain ⟨eR, eH⟩ := K0 _ _ (Option.some.inj hf).symm
    subst eR; subst eH
    exact xs_iret d247_17 rt247
  · refine xs_if_ge (tgt := 6) d247_1 (by decide) (fun hp => absurd hp hc1) (fun _ => ?_)
    refine xs_iconst (v := -1) d247_4 (by decide) ?_
    obtain ⟨eR, eH⟩ := K0 _ _ (Option.some.inj hf).symm
    subst eR; subst eH
    exact xs_iret d247_5 rt247
noncomputable def f_M_seed (v1 : Int32) (h : xH) : Option (Int32 × xH) := f_M_seed_e v1 h
theorem f_M_seed_ok {g : xG} {l : Launch} {d : Nat} {v1 : Int32} {h : xH} {r : Int32} {h1 : xH} (hD : 0 ≤ d) (hf : f_M_seed v1 h = some (r, h1)) : xC g l d 247 [xr 12 (some 0), xi v1] h (some (xi r)) h1 :=
  xC_of2 (by decide) mx247 (Nat.le_of_ble_eq_true rfl) (f_M_seed_e_ok hD hf (fun _ _ e => by cases e; exact ⟨rfl, rfl⟩))
theorem d248_0 : decode (xcode 248) 0 = .ok (.aload_n 0, 1) := by decide +kernel
theorem d248_1 : decode (xcode 248) 1 = .ok (.aload_n 0, 1) := by decide +kernel
theorem d248_2 : decode (xcode 248) 2 = .ok (.getfield 444, 3) := by decide +kernel
theorem d248_5 : decode (xcode 248) 5 = .ok (.ldc2_w 448, 3) := by decide +kernel
theorem d248_8 : decode (xcode 248) 8 = .ok (.lmul, 1) := by decide +kernel
theorem d248_9 : decode (xcode 248) 9 = .ok (.ldc2_w 450, 3) := by decide +kernel
theorem d248_12 : decode (xcode 248) 12 = .ok (.ladd, 1) := by decide +kernel
theorem d248_13 : decode (xcode 248) 13 = .ok (.ldc2_w 452, 3) := by decide +kernel
theorem d248_16 : decode (xcode 248) 16 = .ok (.lrem, 1) := by decide +kernel
theorem d248_17 : decode (xcode 248) 17 = .ok (.putfield 444, 3) := by decide +kernel
theorem d248_20 : decode (xcode 248) 20 = .ok (.aload_n 0, 1) := by decide +kernel
theorem d248_21 : decode (xcode 248) 21 = .ok (.getfield 444, 3) := by decide +kernel
theorem d248_24 : decode (xcode 248) 24 = .ok (.ldc2_w 454, 3) := by decide +kernel
theorem d248_27 : decode (xcode 248) 27 = .ok (.ldiv, 1) := by decide +kernel
theorem d248_28 : decode (xcode 248) 28 = .ok (.iload_n 1, 1) := by decide +kernel
theorem d248_29 : decode (xcode 248) 29 = .ok (.i2l, 1) := by decide +kernel
theorem d248_30 : decode (xcode 248) 30 = .ok (.lrem, 1) := by decide +kernel
theorem d248_31 : decode (xcode 248) 31 = .ok (.l2i, 1) := by decide +kernel
theorem d248_32 : decode (xcode 248) 32 = .ok (.ireturn, 1) := by decide +kernel
noncomputable def f_M_draw_e (v1 : Int32) (h : xH) : Option (Int32 × xH) :=
  xlet (xsL h 12 36 0 ((((h.2.1 12 36 0) * (1103515245 : Int64)) + (12345 : Int64)) - (((h.2.1 12 36 0) * (1103515245 : Int64)) + (12345 : Int64)) / (2147483648 : Int64) * (2147483648 : Int64))) fun h1 =>
  if ¬ ((v1).toInt64) = 0 then (
  some (((((h1.2.1 12 36 0) / (65536 : Int64)) - ((h1.2.1 12 36 0) / (65536 : Int64)) / ((v1).toInt64) * ((v1).toInt64)).toInt32, h1))) else none
set_option maxHeartbeats 4000000 in
set_option maxRecDepth 100000 in
theorem f_M_draw_e_ok {g : xG} {l : Launch} {d : Nat} {v1 : Int32} {h : xH} {o : (Int32 × xH)} {R : Option xV} {H' : xH} (hD : 0 ≤ d) (hf : f_M_draw_e v1 h = some o) (K0 : ∀ (a : Int32) (h1 : xH), o = (a, h1) → R = some (xi a) ∧ H' = h1) : xEv g l d 248 0 [(0, xr 12 (some 0)), (1, xi v1)] [] h R H' := by
  unfold f_M_draw_e at hf
  refine xs_aload_n d248_0 rfl ?_
  refine xs_aload_n d248_1 rfl ?_
  refine xe_getl d248_2 ky248 fl197 fk12_36 ?_
  refine xs_ldc2 (v := 1103515245) d248_5 cl12_448 ?_
  refine xs_lmul d248_8 ?_
  refine xs_ldc2 (v := 12345) d248_9 cl12_450 ?_
  refine xs_ladd d248_12 ?_
  refine xs_ldc2 (v := 2147483648) d248_13 cl12_452 ?_
  refine xs_lrem d248_16 (by decide) ?_
  obtain ⟨h1, eh1, hf⟩ := lk_let hf
  refine xe_putl d248_17 ky248 fl197 fk12_36 ft12_36 eh1 ?_
  refine xs_aload_n d248_20 rfl ?_
  refine xe_getl d248_21 ky248 fl197 fk12_36 ?_
  refine xs_ldc2 (v := 65536) d248_24 cl12_454 ?_
  refine xs_ldiv d248_27 (by decide) ?_
  refine xs_iload_n d248_28 rfl ?_
  refine xs_i2l d248_29 ?_
  obtain ⟨hb2, hf⟩ := lk_g hf
  refine xs_lrem d248_30 hb2 ?_
  refine xs_l2i d248_31 ?_
  obtain ⟨eR, eH⟩ := K0 _ _ (Option.some.inj hf).symm
  subst eR; subst eH
  exact xs_iret d248_32 rt248
noncomputable def f_M_draw (v1 : Int32) (h : xH) : Option (Int32 × xH) := f_M_draw_e v1 h
theorem f_M_draw_ok {g : xG} {l : Launch} {d : Nat} {v1 : Int32} {h : xH} {r : Int32} {h1 : xH} (hD : 0 ≤ d) (hf : f_M_draw v1 h = some (r, h1)) : xC g l d 248 [xr 12 (some 0), xi v1] h (some (xi r)) h1 :=
  xC_of2 (by decide) mx248 (Nat.le_of_ble_eq_true rfl) (f_M_draw_e_ok hD hf (fun _ _ e => by cases e; exact ⟨rfl, rfl⟩))
theorem d249_0 : decode (xcode 249) 0 = .ok (.iconst 0, 1) := by decide +kernel
theorem d249_1 : decode (xcode 249) 1 = .ok (.istore_n 2, 1) := by decide +kernel
theorem d249_2 : decode (xcode 249) 2 = .ok (.iload_n 1, 1) := by decide +kernel
theorem d249_3 : decode (xcode 249) 3 = .ok (.istore_n 3, 1) := by decide +kernel
theorem d249_4 : decode (xcode 249) 4 = .ok (.iload_n 0, 1) := by decide +kernel
theorem d249_5 : decode (xcode 249) 5 = .ok (.iload_n 2, 1) := by decide +kernel
theorem d249_6 : decode (xcode 249) 6 = .ok (.invokestatic 301, 3) := by decide +kernel
theorem d249_9 : decode (xcode 249) 9 = .ok (.ifCond .eq 7, 3) := by decide +kernel
theorem d249_12 : decode (xcode 249) 12 = .ok (.iload_n 3, 1) := by decide +kernel
theorem d249_13 : decode (xcode 249) 13 = .ok (.ifCond .le 25, 3) := by decide +kernel
theorem d249_16 : decode (xcode 249) 16 = .ok (.iload_n 3, 1) := by decide +kernel
theorem d249_17 : decode (xcode 249) 17 = .ok (.iload_n 0, 1) := by decide +kernel
theorem d249_18 : decode (xcode 249) 18 = .ok (.iload_n 2, 1) := by decide +kernel
theorem d249_19 : decode (xcode 249) 19 = .ok (.invokestatic 301, 3) := by decide +kernel
theorem d249_22 : decode (xcode 249) 22 = .ok (.ifCond .eq 7, 3) := by decide +kernel
theorem d249_25 : decode (xcode 249) 25 = .ok (.iconst 1, 1) := by decide +kernel
theorem d249_26 : decode (xcode 249) 26 = .ok (.goto 4, 3) := by decide +kernel
theorem d249_29 : decode (xcode 249) 29 = .ok (.iconst 0, 1) := by decide +kernel
theorem d249_30 : decode (xcode 249) 30 = .ok (.isub, 1) := by decide +kernel
theorem d249_31 : decode (xcode 249) 31 = .ok (.istore_n 3, 1) := by decide +kernel
theorem d249_32 : decode (xcode 249) 32 = .ok (.iinc 2 1, 3) := by decide +kernel
theorem d249_35 : decode (xcode 249) 35 = .ok (.goto (-31), 3) := by decide +kernel
theorem d249_38 : decode (xcode 249) 38 = .ok (.iload_n 2, 1) := by decide +kernel
theorem d249_39 : decode (xcode 249) 39 = .ok (.ireturn, 1) := by decide +kernel
noncomputable def f_M_nthOf_b30 (v0 : Int32) (v2 : Int32) (t0 : Int32) (t1 : Int32) (h : xH) : Option ((Int32 × Int32) ⊕ Int32) :=
  xlet (t1 - t0) fun v3_7 =>
  xlet (v2 + (1 : Int32)) fun v2_8 =>
  some (Sum.inl (v2_8, v3_7))
set_option maxHeartbeats 4000000 in
set_option maxRecDepth 100000 in
theorem f_M_nthOf_b30_ok {g : xG} {l : Launch} {d : Nat} {v0 : Int32} {v2 : Int32} {t0 : Int32} {t1 : Int32} {h : xH} {o : ((Int32 × Int32) ⊕ Int32)} {R : Option xV} (hD : 1 ≤ d) (hf : f_M_nthOf_b30 v0 v2 t0 t1 h = some o) (K1 : ∀ (w2 : Int32) (w3 : Int32), o = Sum.inl (w2, w3) → xEv g l d 249 4 [(0, xi v0), (2, xi w2), (3, xi w3)] [] h R h) (K0 : ∀ (a : Int32), o = Sum.inr (a) → R = some (xi a)) : xEv g l d 249 30 [(0, xi v0), (2, xi v2)] [xi t0, xi t1] h R h := by
  unfold f_M_nthOf_b30 at hf
  refine xs_isub d249_30 ?_
  obtain ⟨v3_7, ev3_7, hf⟩ := lk_let hf
  refine xe_istore_n (v := v3_7) (ls2 := [(0, xi v0), (2, xi v2), (3, xi v3_7)]) d249_31 mx249 (by decide) ev3_7 rfl ?_
  obtain ⟨v2_8, ev2_8, hf⟩ := lk_let hf
  refine xe_iinc (v := v2_8) (b := 1) (ls2 := [(0, xi v0), (2, xi v2_8), (3, xi v3_7)]) d249_32 mx249 (by decide) rfl (by decide) ev2_8 rfl ?_
  refine xs_goto (tgt := 4) d249_35 (by decide) ?_
  exact K1 _ _ (Option.some.inj hf).symm
noncomputable def f_M_nthOf_b16 (v0 : Int32) (v2 : Int32) (v3 : Int32) (h : xH) : Option ((Int32 × Int32) ⊕ Int32) :=
  (f_M_isOf v0 v2 h).bind fun r4 =>
  if r4 = (0 : Int32) then (
  f_M_nthOf_b30 v0 v2 (0 : Int32) v3 h) else (
  f_M_nthOf_b30 v0 v2 (1 : Int32) v3 h)
set_option maxHeartbeats 4000000 in
set_option maxRecDepth 100000 in
theorem f_M_nthOf_b16_ok {g : xG} {l : Launch} {d : Nat} {v0 : Int32} {v2 : Int32} {v3 : Int32} {h : xH} {o : ((Int32 × Int32) ⊕ Int32)} {R : Option xV} (hD : 1 ≤ d) (hf : f_M_nthOf_b16 v0 v2 v3 h = some o) (K1 : ∀ (w2 : Int32) (w3 : Int32), o = Sum.inl (w2, w3) → xEv g l d 249 4 [(0, xi v0), (2, xi w2), (3, xi w3)] [] h R h) (K0 : ∀ (a : Int32), o = Sum.inr (a) → R = some (xi a)) : xEv g l d 249 16 [(0, xi v0), (2, xi v2), (3, xi v3)] [] h R h := by
  unfold f_M_nthOf_b16 at hf
  refine xs_iload_n d249_16 rfl ?_
  refine xs_iload_n d249_17 rfl ?_
  refine xs_iload_n d249_18 rfl ?_
  obtain ⟨r4, hc5, hf⟩ := lk_b hf
  refine xe_calls1 (as := [xi v0, xi v2]) (st := [xi v3]) (h2 := h) (d2 := d - 1) d249_19 ky249 ml233 st140 rfl na140 (Nat.le_of_ble_eq_true rfl) (by omega) (f_M_isOf_ok (by omega) hc5) ?_
  rcases lk_if hf with ⟨hc6, hf⟩ | ⟨hc6, hf⟩
  · refine xs_if_eq (tgt := 29) d249_22 (by decide) (fun _ => ?_) (fun hn => absurd hc6 hn)
    refine xs_iconst (v := 0) d249_29 (by decide) ?_
    refine xs_pick [0, 1] rfl ?_
    exact f_M_nthOf_b30_ok hD hf K1 K0
  · refine xs_if_eq (tgt := 29) d249_22 (by decide) (fun hp => absurd hp hc6) (fun _ => ?_)
    refine xs_iconst (v := 1) d249_25 (by decide) ?_
    refine xs_goto (tgt := 30) d249_26 (by decide) ?_
    refine xs_pick [0, 1] rfl ?_
    exact f_M_nthOf_b30_ok hD hf K1 K0
noncomputable def f_M_nthOf_s4 (v0 : Int32) (v2 : Int32) (v3 : Int32) (h : xH) : Option ((Int32 × Int32) ⊕ Int32) :=
  (f_M_isOf v0 v2 h).bind fun r1 =>
  if r1 = (0 : Int32) then (
  f_M_nthOf_b16 v0 v2 v3 h) else (
  if v3 ≤ (0 : Int32) then (
  some (Sum.inr (v2))) else (
  f_M_nthOf_b16 v0 v2 v3 h))
set_option maxHeartbeats 4000000 in
set_option maxRecDepth 100000 in
theorem f_M_nthOf_s4_ok {g : xG} {l : Launch} {d : Nat} {v0 : Int32} {v2 : Int32} {v3 : Int32} {h : xH} {o : ((Int32 × Int32) ⊕ Int32)} {R : Option xV} (hD : 1 ≤ d) (hf : f_M_nthOf_s4 v0 v2 v3 h = some o) (K1 : ∀ (w2 : Int32) (w3 : Int32), o = Sum.inl (w2, w3) → xEv g l d 249 4 [(0, xi v0), (2, xi w2), (3, xi w3)] [] h R h) (K0 : ∀ (a : Int32), o = Sum.inr (a) → R = some (xi a)) : xEv g l d 249 4 [(0, xi v0), (2, xi v2), (3, xi v3)] [] h R h := by
  unfold f_M_nthOf_s4 at hf
  refine xs_iload_n d249_4 rfl ?_
  refine xs_iload_n d249_5 rfl ?_
  obtain ⟨r1, hc2, hf⟩ := lk_b hf
  refine xe_calls1 (as := [xi v0, xi v2]) (st := []) (h2 := h) (d2 := d - 1) d249_6 ky249 ml233 st140 rfl na140 (Nat.le_of_ble_eq_true rfl) (by omega) (f_M_isOf_ok (by omega) hc2) ?_
  rcases lk_if hf with ⟨hc3, hf⟩ | ⟨hc3, hf⟩
  · refine xs_if_eq (tgt := 16) d249_9 (by decide) (fun _ => ?_) (fun hn => absurd hc3 hn)
    exact f_M_nthOf_b16_ok hD hf K1 K0
  · refine xs_if_eq (tgt := 16) d249_9 (by decide) (fun hp => absurd hp hc3) (fun _ => ?_)
    refine xs_iload_n d249_12 rfl ?_
    rcases lk_if hf with ⟨hc9, hf⟩ | ⟨hc9, hf⟩
    · refine xs_if_le (tgt := 38) d249_13 (by decide) (fun _ => ?_) (fun hn => absurd hc9 hn)
      refine xs_iload_n d249_38 rfl ?_
      obtain eR := K0 _ (Option.some.inj hf).symm
      subst eR
      exact xs_iret d249_39 rt249
    · refine xs_if_le (tgt := 38) d249_13 (by decide) (fun hp => absurd hp hc9) (fun _ => ?_)
      exact f_M_nthOf_b16_ok hD hf K1 K0
noncomputable def f_M_nthOf_l4 (v0 : Int32) (v2 : Int32) (v3 : Int32) (h : xH) : Option Int32 :=
  whl (fun s => f_M_nthOf_s4 v0 s.1 s.2 h) (v2, v3)
theorem f_M_nthOf_l4_ok {g : xG} {l : Launch} {d : Nat} {v0 : Int32} {v2 : Int32} {v3 : Int32} {h : xH} {o : Int32} {R : Option xV} (hD : 1 ≤ d) (hf : f_M_nthOf_l4 v0 v2 v3 h = some o) (K0 : ∀ (a : Int32), o = a → R = some (xi a)) : xEv g l d 249 4 [(0, xi v0), (2, xi v2), (3, xi v3)] [] h R h := by
  obtain ⟨n, hn⟩ := whl_iff.mp hf
  clear hf
  induction n generalizing v2 v3 with
  | zero => cases hn
  | succ n ih =>
    obtain ⟨o2, hs, hn⟩ := lk_b (show (f_M_nthOf_s4 v0 v2 v3 h).bind (fun o => Sum.elim (itn _ n) some o) = some o from hn)
    exact f_M_nthOf_s4_ok hD hs (fun u0 u1 e => ih (by rw [e] at hn; exact hn)) (fun u0 e => K0 u0 (by rw [e] at hn; exact (Option.some.inj hn).symm))
noncomputable def f_M_nthOf_e (v0 : Int32) (v1 : Int32) (h : xH) : Option Int32 :=
  f_M_nthOf_l4 v0 (0 : Int32) v1 h
set_option maxHeartbeats 4000000 in
set_option maxRecDepth 100000 in
theorem f_M_nthOf_e_ok {g : xG} {l : Launch} {d : Nat} {v0 : Int32} {v1 : Int32} {h : xH} {o : Int32} {R : Option xV} (hD : 1 ≤ d) (hf : f_M_nthOf_e v0 v1 h = some o) (K0 : ∀ (a : Int32), o = a → R = some (xi a)) : xEv g l d 249 0 [(0, xi v0), (1, xi v1)] [] h R h := by
  unfold f_M_nthOf_e at hf
  refine xs_iconst (v := 0) d249_0 (by decide) ?_
  refine xe_istore_n (v := (0 : Int32)) (ls2 := [(0, xi v0), (1, xi v1), (2, xi (0 : Int32))]) d249_1 mx249 (by decide) rfl rfl ?_
  refine xs_iload_n d249_2 rfl ?_
  refine xe_istore_n (v := v1) (ls2 := [(0, xi v0), (1, xi v1), (2, xi (0 : Int32)), (3, xi v1)]) d249_3 mx249 (by decide) rfl rfl ?_
  refine xs_pick [0, 2, 3] rfl ?_
  exact f_M_nthOf_l4_ok hD hf K0
noncomputable def f_M_nthOf (v0 : Int32) (v1 : Int32) (h : xH) : Option Int32 := f_M_nthOf_e v0 v1 h
theorem f_M_nthOf_ok {g : xG} {l : Launch} {d : Nat} {v0 : Int32} {v1 : Int32} {h : xH} {r : Int32} (hD : 1 ≤ d) (hf : f_M_nthOf v0 v1 h = some r) : xC g l d 249 [xi v0, xi v1] h (some (xi r)) h :=
  xC_of2 (by decide) mx249 (Nat.le_of_ble_eq_true rfl) (f_M_nthOf_e_ok hD hf (fun _ e => by rw [e]))
theorem d250_0 : decode (xcode 250) 0 = .ok (.aload_n 0, 1) := by decide +kernel
theorem d250_1 : decode (xcode 250) 1 = .ok (.invokevirtual 349, 3) := by decide +kernel
theorem d250_4 : decode (xcode 250) 4 = .ok (.ifCond .eq 25, 3) := by decide +kernel
theorem d250_7 : decode (xcode 250) 7 = .ok (.iload_n 1, 1) := by decide +kernel
theorem d250_8 : decode (xcode 250) 8 = .ok (.i2l, 1) := by decide +kernel
theorem d250_9 : decode (xcode 250) 9 = .ok (.lconst 1, 1) := by decide +kernel
theorem d250_10 : decode (xcode 250) 10 = .ok (.ldc2_w 357, 3) := by decide +kernel
theorem d250_13 : decode (xcode 250) 13 = .ok (.invokestatic 124, 3) := by decide +kernel
theorem d250_16 : decode (xcode 250) 16 = .ok (.ifCond .eq 13, 3) := by decide +kernel
theorem d250_19 : decode (xcode 250) 19 = .ok (.iload_n 2, 1) := by decide +kernel
theorem d250_20 : decode (xcode 250) 20 = .ok (.i2l, 1) := by decide +kernel
theorem d250_21 : decode (xcode 250) 21 = .ok (.lconst 0, 1) := by decide +kernel
theorem d250_22 : decode (xcode 250) 22 = .ok (.lconst 1, 1) := by decide +kernel
theorem d250_23 : decode (xcode 250) 23 = .ok (.invokestatic 124, 3) := by decide +kernel
theorem d250_26 : decode (xcode 250) 26 = .ok (.ifCond .ne 5, 3) := by decide +kernel
theorem d250_29 : decode (xcode 250) 29 = .ok (.iconst (-1), 1) := by decide +kernel
theorem d250_30 : decode (xcode 250) 30 = .ok (.ireturn, 1) := by decide +kernel
theorem d250_31 : decode (xcode 250) 31 = .ok (.aload_n 0, 1) := by decide +kernel
theorem d250_32 : decode (xcode 250) 32 = .ok (.aload_n 0, 1) := by decide +kernel
theorem d250_33 : decode (xcode 250) 33 = .ok (.getfield 441, 3) := by decide +kernel
theorem d250_36 : decode (xcode 250) 36 = .ok (.i2l, 1) := by decide +kernel
theorem d250_37 : decode (xcode 250) 37 = .ok (.putfield 444, 3) := by decide +kernel
theorem d250_40 : decode (xcode 250) 40 = .ok (.iconst 0, 1) := by decide +kernel
theorem d250_41 : decode (xcode 250) 41 = .ok (.istore_n 3, 1) := by decide +kernel
theorem d250_42 : decode (xcode 250) 42 = .ok (.iconst 0, 1) := by decide +kernel
theorem d250_43 : decode (xcode 250) 43 = .ok (.istore 4, 2) := by decide +kernel
theorem d250_45 : decode (xcode 250) 45 = .ok (.aload_n 0, 1) := by decide +kernel
theorem d250_46 : decode (xcode 250) 46 = .ok (.invokevirtual 363, 3) := by decide +kernel
theorem d250_49 : decode (xcode 250) 49 = .ok (.iconst 0, 1) := by decide +kernel
theorem d250_50 : decode (xcode 250) 50 = .ok (.istore 5, 2) := by decide +kernel
theorem d250_52 : decode (xcode 250) 52 = .ok (.iload 5, 2) := by decide +kernel
theorem d250_54 : decode (xcode 250) 54 = .ok (.iload_n 1, 1) := by decide +kernel
theorem d250_55 : decode (xcode 250) 55 = .ok (.if_icmp .ge 64, 3) := by decide +kernel
theorem d250_58 : decode (xcode 250) 58 = .ok (.aload_n 0, 1) := by decide +kernel
theorem d250_59 : decode (xcode 250) 59 = .ok (.invokevirtual 321, 3) := by decide +kernel
theorem d250_62 : decode (xcode 250) 62 = .ok (.ifCond .eq 28, 3) := by decide +kernel
theorem d250_65 : decode (xcode 250) 65 = .ok (.aload_n 0, 1) := by decide +kernel
theorem d250_66 : decode (xcode 250) 66 = .ok (.aload_n 0, 1) := by decide +kernel
theorem d250_67 : decode (xcode 250) 67 = .ok (.invokevirtual 321, 3) := by decide +kernel
theorem d250_70 : decode (xcode 250) 70 = .ok (.aload_n 0, 1) := by decide +kernel
theorem d250_71 : decode (xcode 250) 71 = .ok (.aload_n 0, 1) := by decide +kernel
theorem d250_72 : decode (xcode 250) 72 = .ok (.invokevirtual 321, 3) := by decide +kernel
theorem d250_75 : decode (xcode 250) 75 = .ok (.invokestatic 318, 3) := by decide +kernel
theorem d250_78 : decode (xcode 250) 78 = .ok (.invokevirtual 456, 3) := by decide +kernel
theorem d250_81 : decode (xcode 250) 81 = .ok (.invokestatic 459, 3) := by decide +kernel
theorem d250_84 : decode (xcode 250) 84 = .ok (.invokevirtual 343, 3) := by decide +kernel
theorem d250_87 : decode (xcode 250) 87 = .ok (.goto (-29), 3) := by decide +kernel
theorem d250_90 : decode (xcode 250) 90 = .ok (.iload_n 3, 1) := by decide +kernel
theorem d250_91 : decode (xcode 250) 91 = .ok (.aload_n 0, 1) := by decide +kernel
theorem d250_92 : decode (xcode 250) 92 = .ok (.invokevirtual 327, 3) := by decide +kernel
theorem d250_95 : decode (xcode 250) 95 = .ok (.iadd, 1) := by decide +kernel
theorem d250_96 : decode (xcode 250) 96 = .ok (.istore_n 3, 1) := by decide +kernel
theorem d250_97 : decode (xcode 250) 97 = .ok (.iload 4, 2) := by decide +kernel
theorem d250_99 : decode (xcode 250) 99 = .ok (.aload_n 0, 1) := by decide +kernel
theorem d250_100 : decode (xcode 250) 100 = .ok (.getfield 39, 3) := by decide +kernel
theorem d250_103 : decode (xcode 250) 103 = .ok (.bipush 10, 2) := by decide +kernel
theorem d250_105 : decode (xcode 250) 105 = .ok (.iaload, 1) := by decide +kernel
theorem d250_106 : decode (xcode 250) 106 = .ok (.iadd, 1) := by decide +kernel
theorem d250_107 : decode (xcode 250) 107 = .ok (.istore 4, 2) := by decide +kernel
theorem d250_109 : decode (xcode 250) 109 = .ok (.aload_n 0, 1) := by decide +kernel
theorem d250_110 : decode (xcode 250) 110 = .ok (.invokevirtual 369, 3) := by decide +kernel
theorem d250_113 : decode (xcode 250) 113 = .ok (.iinc 5 1, 3) := by decide +kernel
theorem d250_116 : decode (xcode 250) 116 = .ok (.goto (-64), 3) := by decide +kernel
theorem d250_119 : decode (xcode 250) 119 = .ok (.iload_n 2, 1) := by decide +kernel
theorem d250_120 : decode (xcode 250) 120 = .ok (.ifCond .ne 7, 3) := by decide +kernel
theorem d250_123 : decode (xcode 250) 123 = .ok (.iload_n 3, 1) := by decide +kernel
theorem d250_124 : decode (xcode 250) 124 = .ok (.goto 5, 3) := by decide +kernel
theorem d250_127 : decode (xcode 250) 127 = .ok (.iload 4, 2) := by decide +kernel
theorem d250_129 : decode (xcode 250) 129 = .ok (.ireturn, 1) := by decide +kernel
noncomputable def f_M_years_b119 (v2 : Int32) (v3 : Int32) (v4 : Int32) (h : xH) : Option (Int32 × xH) :=
  if v2 = (0 : Int32) then (
  some ((v3, h))) else (
  some ((v4, h)))
set_option maxHeartbeats 4000000 in
set_option maxRecDepth 100000 in
theorem f_M_years_b119_ok {g : xG} {l : Launch} {d : Nat} {v2 : Int32} {v3 : Int32} {v4 : Int32} {h : xH} {o : (Int32 × xH)} {R : Option xV} {H' : xH} (hD : 5 ≤ d) (hf : f_M_years_b119 v2 v3 v4 h = some o) (K0 : ∀ (a : Int32) (h1 : xH), o = (a, h1) → R = some (xi a) ∧ H' = h1) : xEv g l d 250 119 [(2, xi v2), (3, xi v3), (4, xi v4)] [] h R H' := by
  unfold f_M_years_b119 at hf
  refine xs_iload_n d250_119 rfl ?_
  rcases lk_if hf with ⟨hc15, hf⟩ | ⟨hc15, hf⟩
  · refine xs_if_ne (tgt := 127) d250_120 (by decide) (fun _ => ?_) (fun hn => absurd hc15 hn)
    refine xs_iload_n d250_123 rfl ?_
    refine xs_goto (tgt := 129) d250_124 (by decide) ?_
    obtain ⟨eR, eH⟩ := K0 _ _ (Option.some.inj hf).symm
    subst eR; subst eH
    exact xs_iret d250_129 rt250
  · refine xs_if_ne (tgt := 127) d250_120 (by decide) (fun hp => absurd hp hc15) (fun _ => ?_)
    refine xs_iload d250_127 rfl ?_
    obtain ⟨eR, eH⟩ := K0 _ _ (Option.some.inj hf).symm
    subst eR; subst eH
    exact xs_iret d250_129 rt250
noncomputable def f_M_years_b90 (v1 : Int32) (v2 : Int32) (v3 : Int32) (v4 : Int32) (v5 : Int32) (h : xH) : Option ((Int32 × Int32 × Int32 × xH) ⊕ (Int32 × xH)) :=
  (f_M_letBe h).bind fun r19 =>
  xlet (v3 + r19) fun v3_21 =>
  xlet (v4 + (h.2.2.2.1 56 0 ((10 : Int32)).toNatClampNeg)) fun v4_22 =>
  (f_M_laysBack h).bind fun h25 =>
  xlet (v5 + (1 : Int32)) fun v5_26 =>
  some (Sum.inl (v3_21, v4_22, v5_26, h25))
set_option maxHeartbeats 4000000 in
set_option maxRecDepth 100000 in
theorem f_M_years_b90_ok {g : xG} {l : Launch} {d : Nat} {v1 : Int32} {v2 : Int32} {v3 : Int32} {v4 : Int32} {v5 : Int32} {h : xH} {o : ((Int32 × Int32 × Int32 × xH) ⊕ (Int32 × xH))} {R : Option xV} {H' : xH} (hD : 5 ≤ d) (hf : f_M_years_b90 v1 v2 v3 v4 v5 h = some o) (K1 : ∀ (w3 : Int32) (w4 : Int32) (w5 : Int32) (h1 : xH), o = Sum.inl (w3, w4, w5, h1) → xEv g l d 250 52 [(0, xr 12 (some 0)), (1, xi v1), (2, xi v2), (3, xi w3), (4, xi w4), (5, xi w5)] [] h1 R H') (K0 : ∀ (a : Int32) (h1 : xH), o = Sum.inr ((a, h1)) → R = some (xi a) ∧ H' = h1) : xEv g l d 250 90 [(0, xr 12 (some 0)), (1, xi v1), (2, xi v2), (3, xi v3), (4, xi v4), (5, xi v5)] [] h R H' := by
  unfold f_M_years_b90 at hf
  refine xs_iload_n d250_90 rfl ?_
  refine xs_aload_n d250_91 rfl ?_
  obtain ⟨r19, hc20, hf⟩ := lk_b hf
  refine xe_callv1 (as := []) (st := [xi v3]) (h2 := h) (d2 := d - 1) d250_92 ky250 ml238 st192 (by decide) cn192 rfl na192 (Nat.le_of_ble_eq_true rfl) (by omega) (f_M_letBe_ok (by omega) hc20) ?_
  refine xs_iadd d250_95 ?_
  obtain ⟨v3_21, ev3_21, hf⟩ := lk_let hf
  refine xe_istore_n (v := v3_21) (ls2 := [(0, xr 12 (some 0)), (1, xi v1), (2, xi v2), (3, xi v3_21), (4, xi v4), (5, xi v5)]) d250_96 mx250 (by decide) ev3_21 rfl ?_
  refine xs_iload d250_97 rfl ?_
  refine xs_aload_n d250_99 rfl ?_
  refine xe_getc (j := 0) d250_100 ky250 fl181 fk12_20 rfl ?_
  refine xs_bipush (v := 10) d250_103 (by decide) ?_
  refine xe_iald d250_105 (by decide) ak56 (show xib (10 : Int32) 101 by decide) ?_
  refine xs_iadd d250_106 ?_
  obtain ⟨v4_22, ev4_22, hf⟩ := lk_let hf
  refine xe_istore (v := v4_22) (ls2 := [(0, xr 12 (some 0)), (1, xi v1), (2, xi v2), (3, xi v3_21), (4, xi v4_22), (5, xi v5)]) d250_107 mx250 (by decide) ev4_22 rfl ?_
  refine xs_aload_n d250_109 rfl ?_
  obtain ⟨h25, hc24, hf⟩ := lk_b hf
  refine xe_callv0 (as := []) (st := []) (h2 := h25) (d2 := d - 1) d250_110 ky250 ml254 st213 (by decide) cn213 rfl na213 (Nat.le_of_ble_eq_true rfl) (by omega) (f_M_laysBack_ok (by omega) hc24) ?_
  obtain ⟨v5_26, ev5_26, hf⟩ := lk_let hf
  refine xe_iinc (v := v5_26) (b := 1) (ls2 := [(0, xr 12 (some 0)), (1, xi v1), (2, xi v2), (3, xi v3_21), (4, xi v4_22), (5, xi v5_26)]) d250_113 mx250 (by decide) rfl (by decide) ev5_26 rfl ?_
  refine xs_goto (tgt := 52) d250_116 (by decide) ?_
  exact K1 _ _ _ _ (Option.some.inj hf).symm
noncomputable def f_M_years_s58 (v1 : Int32) (v2 : Int32) (v3 : Int32) (v4 : Int32) (v5 : Int32) (h : xH) : Option ((xH) ⊕ ((Int32 × Int32 × Int32 × xH) ⊕ (Int32 × xH))) :=
  (f_M_looseOnes h).bind fun r16 =>
  if r16 = (0 : Int32) then (
  xup (f_M_years_b90 v1 v2 v3 v4 v5 h)) else (
  (f_M_looseOnes h).bind fun r27 =>
  (f_M_looseOnes h).bind fun r29 =>
  (f_M_bits r29 h).bind fun r31 =>
  (f_M_draw r31 h).bind fun q35 =>
  (f_M_nthOf r27 q35.1 q35.2).bind fun r36 =>
  (f_M_lifts r36 q35.2).bind fun h40 =>
  some (Sum.inl h40))
set_option maxHeartbeats 4000000 in
set_option maxRecDepth 100000 in
theorem f_M_years_s58_ok {g : xG} {l : Launch} {d : Nat} {v1 : Int32} {v2 : Int32} {v3 : Int32} {v4 : Int32} {v5 : Int32} {h : xH} {o : ((xH) ⊕ ((Int32 × Int32 × Int32 × xH) ⊕ (Int32 × xH)))} {R : Option xV} {H' : xH} (hD : 5 ≤ d) (hf : f_M_years_s58 v1 v2 v3 v4 v5 h = some o) (K1 : ∀ (w3 : Int32) (w4 : Int32) (w5 : Int32) (h1 : xH), o = Sum.inr (Sum.inl (w3, w4, w5, h1)) → xEv g l d 250 52 [(0, xr 12 (some 0)), (1, xi v1), (2, xi v2), (3, xi w3), (4, xi w4), (5, xi w5)] [] h1 R H') (K2 : ∀ (h1 : xH), o = Sum.inl h1 → xEv g l d 250 58 [(0, xr 12 (some 0)), (1, xi v1), (2, xi v2), (3, xi v3), (4, xi v4), (5, xi v5)] [] h1 R H') (K0 : ∀ (a : Int32) (h1 : xH), o = Sum.inr (Sum.inr ((a, h1))) → R = some (xi a) ∧ H' = h1) : xEv g l d 250 58 [(0, xr 12 (some 0)), (1, xi v1), (2, xi v2), (3, xi v3), (4, xi v4), (5, xi v5)] [] h R H' := by
  unfold f_M_years_s58 at hf
  refine xs_aload_n d250_58 rfl ?_
  obtain ⟨r16, hc17, hf⟩ := lk_b hf
  refine xe_callv1 (as := []) (st := []) (h2 := h) (d2 := d - 1) d250_59 ky250 ml235 st189 (by decide) cn189 rfl na189 (Nat.le_of_ble_eq_true rfl) (by omega) (f_M_looseOnes_ok (by omega) hc17) ?_
  rcases lk_if hf with ⟨hc18, hf⟩ | ⟨hc18, hf⟩
  · refine xs_if_eq (tgt := 90) d250_62 (by decide) (fun _ => ?_) (fun hn => absurd hc18 hn)
    obtain ⟨x0, hf, ex0⟩ := lk_up hf
    exact f_M_years_b90_ok hD hf (fun u0 u1 u2 u3 e => K1 u0 u1 u2 u3 (ex0.trans (congrArg Sum.inr e))) (fun u0 u1 e => K0 u0 u1 (ex0.trans (congrArg Sum.inr e)))
  · refine xs_if_eq (tgt := 90) d250_62 (by decide) (fun hp => absurd hp hc18) (fun _ => ?_)
    refine xs_aload_n d250_65 rfl ?_
    refine xs_aload_n d250_66 rfl ?_
    obtain ⟨r27, hc28, hf⟩ := lk_b hf
    refine xe_callv1 (as := []) (st := [xr 12 (some 0)]) (h2 := h) (d2 := d - 1) d250_67 ky250 ml235 st189 (by decide) cn189 rfl na189 (Nat.le_of_ble_eq_true rfl) (by omega) (f_M_looseOnes_ok (by omega) hc28) ?_
    refine xs_aload_n d250_70 rfl ?_
    refine xs_aload_n d250_71 rfl ?_
    obtain ⟨r29, hc30, hf⟩ := lk_b hf
    refine xe_callv1 (as := []) (st := [xr 12 (some 0), xi r27, xr 12 (some 0)]) (h2 := h) (d2 := d - 1) d250_72 ky250 ml235 st189 (by decide) cn189 rfl na189 (Nat.le_of_ble_eq_true rfl) (by omega) (f_M_looseOnes_ok (by omega) hc30) ?_
    obtain ⟨r31, hc32, hf⟩ := lk_b hf
    refine xe_calls1 (as := [xi r29]) (st := [xr 12 (some 0), xi r27, xr 12 (some 0)]) (h2 := h) (d2 := d - 1) d250_75 ky250 ml234 st141 rfl na141 (Nat.le_of_ble_eq_true rfl) (by omega) (f_M_bits_ok (by omega) hc32) ?_
    obtain ⟨q35, hc34, hf⟩ := lk_b hf
    refine xe_callv1 (as := [xi r31]) (st := [xi r27, xr 12 (some 0)]) (h2 := q35.2) (d2 := d - 1) d250_78 ky250 ml289 st248 (by decide) cn248 rfl na248 (Nat.le_of_ble_eq_true rfl) (by omega) (f_M_draw_ok (by omega) hc34) ?_
    obtain ⟨r36, hc37, hf⟩ := lk_b hf
    refine xe_calls1 (as := [xi r27, xi q35.1]) (st := [xr 12 (some 0)]) (h2 := q35.2) (d2 := d - 1) d250_81 ky250 ml290 st249 rfl na249 (Nat.le_of_ble_eq_true rfl) (by omega) (f_M_nthOf_ok (by omega) hc37) ?_
    obtain ⟨h40, hc39, hf⟩ := lk_b hf
    refine xe_callv0 (as := [xi r36]) (st := []) (h2 := h40) (d2 := d - 1) d250_84 ky250 ml246 st202 (by decide) cn202 rfl na202 (Nat.le_of_ble_eq_true rfl) (by omega) (f_M_lifts_ok (by omega) hc39) ?_
    refine xs_goto (tgt := 58) d250_87 (by decide) ?_
    exact K2 _ (Option.some.inj hf).symm
noncomputable def f_M_years_l58 (v1 : Int32) (v2 : Int32) (v3 : Int32) (v4 : Int32) (v5 : Int32) (h : xH) : Option ((Int32 × Int32 × Int32 × xH) ⊕ (Int32 × xH)) :=
  whl (fun s => f_M_years_s58 v1 v2 v3 v4 v5 s) h
theorem f_M_years_l58_ok {g : xG} {l : Launch} {d : Nat} {v1 : Int32} {v2 : Int32} {v3 : Int32} {v4 : Int32} {v5 : Int32} {h : xH} {o : ((Int32 × Int32 × Int32 × xH) ⊕ (Int32 × xH))} {R : Option xV} {H' : xH} (hD : 5 ≤ d) (hf : f_M_years_l58 v1 v2 v3 v4 v5 h = some o) (K1 : ∀ (w3 : Int32) (w4 : Int32) (w5 : Int32) (h1 : xH), o = Sum.inl (w3, w4, w5, h1) → xEv g l d 250 52 [(0, xr 12 (some 0)), (1, xi v1), (2, xi v2), (3, xi w3), (4, xi w4), (5, xi w5)] [] h1 R H') (K0 : ∀ (a : Int32) (h1 : xH), o = Sum.inr ((a, h1)) → R = some (xi a) ∧ H' = h1) : xEv g l d 250 58 [(0, xr 12 (some 0)), (1, xi v1), (2, xi v2), (3, xi v3), (4, xi v4), (5, xi v5)] [] h R H' := by
  obtain ⟨n, hn⟩ := whl_iff.mp hf
  clear hf
  induction n generalizing h with
  | zero => cases hn
  | succ n ih =>
    obtain ⟨o2, hs, hn⟩ := lk_b (show (f_M_years_s58 v1 v2 v3 v4 v5 h).bind (fun o => Sum.elim (itn _ n) some o) = some o from hn)
    exact f_M_years_s58_ok hD hs (fun u0 u1 u2 u3 e => K1 u0 u1 u2 u3 (by rw [e] at hn; exact (Option.some.inj hn).symm)) (fun u0 e => ih (by rw [e] at hn; exact hn)) (fun u0 u1 e => K0 u0 u1 (by rw [e] at hn; exact (Option.some.inj hn).symm))
noncomputable def f_M_years_s52 (v1 : Int32) (v2 : Int32) (v3 : Int32) (v4 : Int32) (v5 : Int32) (h : xH) : Option ((Int32 × Int32 × Int32 × xH) ⊕ (Int32 × xH)) :=
  if v1 ≤ v5 then (
  xup (f_M_years_b119 v2 v3 v4 h)) else (
  f_M_years_l58 v1 v2 v3 v4 v5 h)
set_option maxHeartbeats 4000000 in
set_option maxRecDepth 100000 in
theorem f_M_years_s52_ok {g : xG} {l : Launch} {d : Nat} {v1 : Int32} {v2 : Int32} {v3 : Int32} {v4 : Int32} {v5 : Int32} {h : xH} {o : ((Int32 × Int32 × Int32 × xH) ⊕ (Int32 × xH))} {R : Option xV} {H' : xH} (hD : 5 ≤ d) (hf : f_M_years_s52 v1 v2 v3 v4 v5 h = some o) (K1 : ∀ (w3 : Int32) (w4 : Int32) (w5 : Int32) (h1 : xH), o = Sum.inl (w3, w4, w5, h1) → xEv g l d 250 52 [(0, xr 12 (some 0)), (1, xi v1), (2, xi v2), (3, xi w3), (4, xi w4), (5, xi w5)] [] h1 R H') (K0 : ∀ (a : Int32) (h1 : xH), o = Sum.inr ((a, h1)) → R = some (xi a) ∧ H' = h1) : xEv g l d 250 52 [(0, xr 12 (some 0)), (1, xi v1), (2, xi v2), (3, xi v3), (4, xi v4), (5, xi v5)] [] h R H' := by
  unfold f_M_years_s52 at hf
  refine xs_iload d250_52 rfl ?_
  refine xs_iload_n d250_54 rfl ?_
  rcases lk_if hf with ⟨hc14, hf⟩ | ⟨hc14, hf⟩
  · refine xs_icmp_ge (tgt := 119) d250_55 (by decide) (fun _ => ?_) (fun hn => absurd hc14 hn)
    refine xs_pick [2, 3, 4] rfl ?_
    obtain ⟨x0, hf, ex0⟩ := lk_up hf
    exact f_M_years_b119_ok hD hf (fun u0 u1 e => K0 u0 u1 (ex0.trans (congrArg Sum.inr e)))
  · refine xs_icmp_ge (tgt := 119) d250_55 (by decide) (fun hp => absurd hp hc14) (fun _ => ?_)
    exact f_M_years_l58_ok hD hf K1 K0
noncomputable def f_M_years_l52 (v1 : Int32) (v2 : Int32) (v3 : Int32) (v4 : Int32) (v5 : Int32) (h : xH) : Option (Int32 × xH) :=
  whl (fun s => f_M_years_s52 v1 v2 s.1 s.2.1 s.2.2.1 s.2.2.2) (v3, v4, v5, h)
theorem f_M_years_l52_ok {g : xG} {l : Launch} {d : Nat} {v1 : Int32} {v2 : Int32} {v3 : Int32} {v4 : Int32} {v5 : Int32} {h : xH} {o : (Int32 × xH)} {R : Option xV} {H' : xH} (hD : 5 ≤ d) (hf : f_M_years_l52 v1 v2 v3 v4 v5 h = some o) (K0 : ∀ (a : Int32) (h1 : xH), o = (a, h1) → R = some (xi a) ∧ H' = h1) : xEv g l d 250 52 [(0, xr 12 (some 0)), (1, xi v1), (2, xi v2), (3, xi v3), (4, xi v4), (5, xi v5)] [] h R H' := by
  obtain ⟨n, hn⟩ := whl_iff.mp hf
  clear hf
  induction n generalizing v3 v4 v5 h with
  | zero => cases hn
  | succ n ih =>
    obtain ⟨o2, hs, hn⟩ := lk_b (show (f_M_years_s52 v1 v2 v3 v4 v5 h).bind (fun o => Sum.elim (itn _ n) some o) = some o from hn)
    exact f_M_years_s52_ok hD hs (fun u0 u1 u2 u3 e => ih (by rw [e] at hn; exact hn)) (fun u0 u1 e => K0 u0 u1 (by rw [e] at hn; exact (Option.some.inj hn).symm))
noncomputable def f_M_years_e (v1 : Int32) (v2 : Int32) (h : xH) : Option (Int32 × xH) :=
  (f_M_isTrug h).bind fun r1 =>
  if r1 = (0 : Int32) then (
  some (((-1 : Int32), h))) else (
  (f_M_in ((v1).toInt64) (1 : Int64) (20 : Int64) h).bind fun r4 =>
  if r4 = (0 : Int32) then (
  some (((-1 : Int32), h))) else (
  (f_M_in ((v2).toInt64) (0 : Int64) (1 : Int64) h).bind fun r7 =>
  if r7 = (0 : Int32) then (
  some (((-1 : Int32), h))) else (
  xlet (xsL h 12 36 0 ((h.1 12 22 0).toInt64)) fun h10 =>
  (f_M_keeps h10).bind fun h13 =>
  f_M_years_l52 v1 v2 (0 : Int32) (0 : Int32) (0 : Int32) h13)))
set_option maxHeartbeats 4000000 in
set_option maxRecDepth 100000 in
theorem f_M_years_e_ok {g : xG} {l : Launch} {d : Nat} {v1 : Int32} {v2 : Int32} {h : xH} {o : (Int32 × xH)} {R : Option xV} {H' : xH} (hD : 5 ≤ d) (hf : f_M_years_e v1 v2 h = some o) (K0 : ∀ (a : Int32) (h1 : xH), o = (a, h1) → R = some (xi a) ∧ H' = h1) : xEv g l d 250 0 [(0, xr 12 (some 0)), (1, xi v1), (2, xi v2)] [] h R H' := by
  unfold f_M_years_e at hf
  refine xs_aload_n d250_0 rfl ?_
  obtain ⟨r1, hc2, hf⟩ := lk_b hf
  refine xe_callv1 (as := []) (st := []) (h2 := h) (d2 := d - 1) d250_1 ky250 ml225 st184 (by decide) cn184 rfl na184 (Nat.le_of_ble_eq_true rfl) (by omega) (f_M_isTrug_ok (by omega) hc2) ?_
  rcases lk_if hf with ⟨hc3, hf⟩ | ⟨hc3, hf⟩
  · refine xs_if_eq (tgt := 29) d250_4 (by decide) (fun _ => ?_) (fun hn => absurd hc3 hn)
    refine xs_iconst (v := -1) d250_29 (by decide) ?_
    obtain ⟨eR, eH⟩ := K0 _ _ (Option.some.inj hf).symm
    subst eR; subst eH
    exact xs_iret d250_30 rt250
  · refine xs_if_eq (tgt := 29) d250_4 (by decide) (fun hp => absurd hp hc3) (fun _ => ?_)
    refine xs_iload_n d250_7 rfl ?_
    refine xs_i2l d250_8 ?_
    refine xs_lconst (v := 1) d250_9 (by decide) ?_
    refine xs_ldc2 (v := 20) d250_10 cl12_357 ?_
    obtain ⟨r4, hc5, hf⟩ := lk_b hf
    refine xe_calls1 (as := [xl ((v1).toInt64), xl (1 : Int64), xl (20 : Int64)]) (st := []) (h2 := h) (d2 := d - 1) d250_13 ky250 ml196 st139 rfl na139 (Nat.le_of_ble_eq_true rfl) (by omega) (f_M_in_ok (by omega) hc5) ?_
    rcases lk_if hf with ⟨hc6, hf⟩ | ⟨hc6, hf⟩
    · refine xs_if_eq (tgt := 29) d250_16 (by decide) (fun _ => ?_) (fun hn => absurd hc6 hn)
      refine xs_iconst (v := -1) d250_29 (by decide) ?_
      obtain ⟨eR, eH⟩ := K0 _ _ (Option.some.inj hf).symm
      subst eR; subst eH
      exact xs_iret d250_30 rt250
    · refine xs_if_eq (tgt := 29) d250_16 (by decide) (fun hp => absurd hp hc6) (fun _ => ?_)
      refine xs_iload_n d250_19 rfl ?_
      refine xs_i2l d250_20 ?_
      refine xs_lconst (v := 0) d250_21 (by decide) ?_
      refine xs_lconst (v := 1) d250_22 (by decide) ?_
      obtain ⟨r7, hc8, hf⟩ := lk_b hf
      refine xe_calls1 (as := [xl ((v2).toInt64), xl (0 : Int64), xl (1 : Int64)]) (st := []) (h2 := h) (d2 := d - 1) d250_23 ky250 ml196 st139 rfl na139 (Nat.le_of_ble_eq_true rfl) (by omega) (f_M_in_ok (by omega) hc8) ?_
      rcases lk_if hf with ⟨hc9, hf⟩ | ⟨hc9, hf⟩
      · refine xs_if_ne (tgt := 31) d250_26 (by decide) (fun _ => ?_) (fun hn => absurd hc9 hn)
        refine xs_iconst (v := -1) d250_29 (by decide) ?_
        obtain ⟨eR, eH⟩ := K0 _ _ (Option.some.inj hf).symm
        subst eR; subst eH
        exact xs_iret d250_30 rt250
      · refine xs_if_ne (tgt := 31) d250_26 (by decide) (fun hp => absurd hp hc9) (fun _ => ?_)
        refine xs_aload_n d250_31 rfl ?_
        refine xs_aload_n d250_32 rfl ?_
        refine xe_geti d250_33 ky250 fl183 fk12_22 ?_
        refine xs_i2l d250_36 ?_
        obtain ⟨h10, eh10, hf⟩ := lk_let hf
        refine xe_putl d250_37 ky250 fl197 fk12_36 ft12_36 eh10 ?_
        refine xs_iconst (v := 0) d250_40 (by decide) ?_
        refine xe_istore_n (v := (0 : Int32)) (ls2 := [(0, xr 12 (some 0)), (1, xi v1), (2, xi v2), (3, xi (0 : Int32))]) d250_41 mx250 (by decide) rfl rfl ?_
        refine xs_iconst (v := 0) d250_42 (by decide) ?_
        refine xe_istore (v := (0 : Int32)) (ls2 := [(0, xr 12 (some 0)), (1, xi v1), (2, xi v2), (3, xi (0 : Int32)), (4, xi (0 : Int32))]) d250_43 mx250 (by decide) rfl rfl ?_
        refine xs_aload_n d250_45 rfl ?_
        obtain ⟨h13, hc12, hf⟩ := lk_b hf
        refine xe_callv0 (as := []) (st := []) (h2 := h13) (d2 := d - 1) d250_46 ky250 ml252 st212 (by decide) cn212 rfl na212 (Nat.le_of_ble_eq_true rfl) (by omega) (f_M_keeps_ok (by omega) hc12) ?_
        refine xs_iconst (v := 0) d250_49 (by decide) ?_
        refine xe_istore (v := (0 : Int32)) (ls2 := [(0, xr 12 (some 0)), (1, xi v1), (2, xi v2), (3, xi (0 : Int32)), (4, xi (0 : Int32)), (5, xi (0 : Int32))]) d250_50 mx250 (by decide) rfl rfl ?_
        exact f_M_years_l52_ok hD hf K0
noncomputable def f_M_years (v1 : Int32) (v2 : Int32) (h : xH) : Option (Int32 × xH) := f_M_years_e v1 v2 h
theorem f_M_years_ok {g : xG} {l : Launch} {d : Nat} {v1 : Int32} {v2 : Int32} {h : xH} {r : Int32} {h1 : xH} (hD : 5 ≤ d) (hf : f_M_years v1 v2 h = some (r, h1)) : xC g l d 250 [xr 12 (some 0), xi v1, xi v2] h (some (xi r)) h1 :=
  xC_of2 (by decide) mx250 (Nat.le_of_ble_eq_true rfl) (f_M_years_e_ok hD hf (fun _ _ e => by cases e; exact ⟨rfl, rfl⟩))
theorem d251_0 : decode (xcode 251) 0 = .ok (.iload_n 1, 1) := by decide +kernel
theorem d251_1 : decode (xcode 251) 1 = .ok (.tableswitch 157 0 15 #[79, 79, 79, 79, 88, 93, 98, 106, 114, 119, 124, 129, 134, 142, 147, 152], 79) := by decide +kernel
theorem d251_80 : decode (xcode 251) 80 = .ok (.aload_n 0, 1) := by decide +kernel
theorem d251_81 : decode (xcode 251) 81 = .ok (.getfield 39, 3) := by decide +kernel
theorem d251_84 : decode (xcode 251) 84 = .ok (.iload_n 1, 1) := by decide +kernel
theorem d251_85 : decode (xcode 251) 85 = .ok (.iconst 1, 1) := by decide +kernel
theorem d251_86 : decode (xcode 251) 86 = .ok (.iadd, 1) := by decide +kernel
theorem d251_87 : decode (xcode 251) 87 = .ok (.iaload, 1) := by decide +kernel
theorem d251_88 : decode (xcode 251) 88 = .ok (.ireturn, 1) := by decide +kernel
theorem d251_89 : decode (xcode 251) 89 = .ok (.aload_n 0, 1) := by decide +kernel
theorem d251_90 : decode (xcode 251) 90 = .ok (.getfield 263, 3) := by decide +kernel
theorem d251_93 : decode (xcode 251) 93 = .ok (.ireturn, 1) := by decide +kernel
theorem d251_94 : decode (xcode 251) 94 = .ok (.aload_n 0, 1) := by decide +kernel
theorem d251_95 : decode (xcode 251) 95 = .ok (.getfield 42, 3) := by decide +kernel
theorem d251_98 : decode (xcode 251) 98 = .ok (.ireturn, 1) := by decide +kernel
theorem d251_99 : decode (xcode 251) 99 = .ok (.aload_n 0, 1) := by decide +kernel
theorem d251_100 : decode (xcode 251) 100 = .ok (.getfield 39, 3) := by decide +kernel
theorem d251_103 : decode (xcode 251) 103 = .ok (.bipush 10, 2) := by decide +kernel
theorem d251_105 : decode (xcode 251) 105 = .ok (.iaload, 1) := by decide +kernel
theorem d251_106 : decode (xcode 251) 106 = .ok (.ireturn, 1) := by decide +kernel
theorem d251_107 : decode (xcode 251) 107 = .ok (.aload_n 0, 1) := by decide +kernel
theorem d251_108 : decode (xcode 251) 108 = .ok (.getfield 39, 3) := by decide +kernel
theorem d251_111 : decode (xcode 251) 111 = .ok (.bipush 11, 2) := by decide +kernel
theorem d251_113 : decode (xcode 251) 113 = .ok (.iaload, 1) := by decide +kernel
theorem d251_114 : decode (xcode 251) 114 = .ok (.ireturn, 1) := by decide +kernel
theorem d251_115 : decode (xcode 251) 115 = .ok (.aload_n 0, 1) := by decide +kernel
theorem d251_116 : decode (xcode 251) 116 = .ok (.invokevirtual 295, 3) := by decide +kernel
theorem d251_119 : decode (xcode 251) 119 = .ok (.ireturn, 1) := by decide +kernel
theorem d251_120 : decode (xcode 251) 120 = .ok (.aload_n 0, 1) := by decide +kernel
theorem d251_121 : decode (xcode 251) 121 = .ok (.invokevirtual 321, 3) := by decide +kernel
theorem d251_124 : decode (xcode 251) 124 = .ok (.ireturn, 1) := by decide +kernel
theorem d251_125 : decode (xcode 251) 125 = .ok (.aload_n 0, 1) := by decide +kernel
theorem d251_126 : decode (xcode 251) 126 = .ok (.invokevirtual 327, 3) := by decide +kernel
theorem d251_129 : decode (xcode 251) 129 = .ok (.ireturn, 1) := by decide +kernel
theorem d251_130 : decode (xcode 251) 130 = .ok (.aload_n 0, 1) := by decide +kernel
theorem d251_131 : decode (xcode 251) 131 = .ok (.invokevirtual 324, 3) := by decide +kernel
theorem d251_134 : decode (xcode 251) 134 = .ok (.ireturn, 1) := by decide +kernel
theorem d251_135 : decode (xcode 251) 135 = .ok (.aload_n 0, 1) := by decide +kernel
theorem d251_136 : decode (xcode 251) 136 = .ok (.getfield 39, 3) := by decide +kernel
theorem d251_139 : decode (xcode 251) 139 = .ok (.bipush 100, 2) := by decide +kernel
theorem d251_141 : decode (xcode 251) 141 = .ok (.iaload, 1) := by decide +kernel
theorem d251_142 : decode (xcode 251) 142 = .ok (.ireturn, 1) := by decide +kernel
theorem d251_143 : decode (xcode 251) 143 = .ok (.aload_n 0, 1) := by decide +kernel
theorem d251_144 : decode (xcode 251) 144 = .ok (.getfield 272, 3) := by decide +kernel
theorem d251_147 : decode (xcode 251) 147 = .ok (.ireturn, 1) := by decide +kernel
theorem d251_148 : decode (xcode 251) 148 = .ok (.aload_n 0, 1) := by decide +kernel
theorem d251_149 : decode (xcode 251) 149 = .ok (.getfield 441, 3) := by decide +kernel
theorem d251_152 : decode (xcode 251) 152 = .ok (.ireturn, 1) := by decide +kernel
theorem d251_153 : decode (xcode 251) 153 = .ok (.aload_n 0, 1) := by decide +kernel
theorem d251_154 : decode (xcode 251) 154 = .ok (.getfield 86, 3) := by decide +kernel
theorem d251_157 : decode (xcode 251) 157 = .ok (.ireturn, 1) := by decide +kernel
theorem d251_158 : decode (xcode 251) 158 = .ok (.iconst (-1), 1) := by decide +kernel
theorem d251_159 : decode (xcode 251) 159 = .ok (.ireturn, 1) := by decide +kernel
noncomputable def f_M_count_e (v1 : Int32) (h : xH) : Option Int32 :=
  if v1 = (0 : Int32) then (
  if xib (v1 + (1 : Int32)) 101 then (
  some (h.2.2.2.1 56 0 (v1 + (1 : Int32)).toNatClampNeg)) else none) else (
  if v1 = (1 : Int32) then (
  if xib (v1 + (1 : Int32)) 101 then (
  some (h.2.2.2.1 56 0 (v1 + (1 : Int32)).toNatClampNeg)) else none) else (
  if v1 = (2 : Int32) then (
  if xib (v1 + (1 : Int32)) 101 then (
  some (h.2.2.2.1 56 0 (v1 + (1 : Int32)).toNatClampNeg)) else none) else (
  if v1 = (3 : Int32) then (
  if xib (v1 + (1 : Int32)) 101 then (
  some (h.2.2.2.1 56 0 (v1 + (1 : Int32)).toNatClampNeg)) else none) else (
  if v1 = (4 : Int32) then (
  some (h.1 12 2 0)) else (
  if v1 = (5 : Int32) then (
  some (h.1 12 21 0)) else (
  if v1 = (6 : Int32) then (
  some (h.2.2.2.1 56 0 ((10 : Int32)).toNatClampNeg)) else (
  if v1 = (7 : Int32) then (
  some (h.2.2.2.1 56 0 ((11 : Int32)).toNatClampNeg)) else (
  if v1 = (8 : Int32) then (
  (f_M_inside h).bind fun r14 =>
  some (r14)) else (
  if v1 = (9 : Int32) then (
  (f_M_looseOnes h).bind fun r17 =>
  some (r17)) else (
  if v1 = (10 : Int32) then (
  (f_M_letBe h).bind fun r20 =>
  some (r20)) else (
  if v1 = (11 : Int32) then (
  (f_M_loadNow h).bind fun r23 =>
  some (r23)) else (
  if v1 = (12 : Int32) then (
  some (h.2.2.2.1 56 0 ((100 : Int32)).toNatClampNeg)) else (
  if v1 = (13 : Int32) then (
  some (h.1 12 24 0)) else (
  if v1 = (14 : Int32) then (
  some (h.1 12 22 0)) else (
  if v1 = (15 : Int32) then (
  some (h.1 12 1 0)) else (
  some ((-1 : Int32))))))))))))))))))
set_option maxHeartbeats 4000000 in
set_option maxRecDepth 100000 in
theorem f_M_count_e_ok {g : xG} {l : Launch} {d : Nat} {v1 : Int32} {h : xH} {o : Int32} {R : Option xV} (hD : 5 ≤ d) (hf : f_M_count_e v1 h = some o) (K0 : ∀ (a : Int32), o = a → R = some (xi a)) : xEv g l d 251 0 [(0, xr 12 (some 0)), (1, xi v1)] [] h R h := by
  unfold f_M_count_e at hf
  refine xs_iload_n d251_0 rfl ?_
  rcases lk_if hf with ⟨hc1, hf⟩ | ⟨hc1, hf⟩
  · refine xs_tableIn (tgt := 80) d251_1 (by rw [hc1]; decide) (by rw [hc1]; decide) (by rw [hc1]; first | done | rfl) (by decide) ?_
    refine xs_aload_n d251_80 rfl ?_
    refine xe_getc (j := 0) d251_81 ky251 fl181 fk12_20 rfl ?_
    refine xs_iload_n d251_84 rfl ?_
    refine xs_iconst (v := 1) d251_85 (by decide) ?_
    refine xs_iadd d251_86 ?_
    obtain ⟨hin2, hf⟩ := lk_g hf
    refine xe_iald d251_87 (by decide) ak56 hin2 ?_
    obtain eR := K0 _ (Option.some.inj hf).symm
    subst eR
    exact xs_iret d251_88 rt251
  · skip
    rcases lk_if hf with ⟨hc3, hf⟩ | ⟨hc3, hf⟩
    · refine xs_tableIn (tgt := 80) d251_1 (by rw [hc3]; decide) (by rw [hc3]; decide) (by rw [hc3]; first | done | rfl) (by decide) ?_
      refine xs_aload_n d251_80 rfl ?_
      refine xe_getc (j := 0) d251_81 ky251 fl181 fk12_20 rfl ?_
      refine xs_iload_n d251_84 rfl ?_
      refine xs_iconst (v := 1) d251_85 (by decide) ?_
      refine xs_iadd d251_86 ?_
      obtain ⟨hin4, hf⟩ := lk_g hf
      refine xe_iald d251_87 (by decide) ak56 hin4 ?_
      obtain eR := K0 _ (Option.some.inj hf).symm
      subst eR
      exact xs_iret d251_88 rt251
    · skip
      rcases lk_if hf with ⟨hc5, hf⟩ | ⟨hc5, hf⟩
      · refine xs_tableIn (tgt := 80) d251_1 (by rw [hc5]; decide) (by rw [hc5]; decide) (by rw [hc5]; first | done | rfl) (by decide) ?_
        refine xs_aload_n d251_80 rfl ?_
        refine xe_getc (j := 0) d251_81 ky251 fl181 fk12_20 rfl ?_
        refine xs_iload_n d251_84 rfl ?_
        refine xs_iconst (v := 1) d251_85 (by decide) ?_
        refine xs_iadd d251_86 ?_
        obtain ⟨hin6, hf⟩ := lk_g hf
        refine xe_iald d251_87 (by decide) ak56 hin6 ?_
        obtain eR := K0 _ (Option.some.inj hf).symm
        subst eR
        exact xs_iret d251_88 rt251
      · skip
        rcases lk_if hf with ⟨hc7, hf⟩ | ⟨hc7, hf⟩
        · refine xs_tableIn (tgt := 80) d251_1 (by rw [hc7]; decide) (by rw [hc7]; decide) (by rw [hc7]; first | done | rfl) (by decide) ?_
          refine xs_aload_n d251_80 rfl ?_
          refine xe_getc (j := 0) d251_81 ky251 fl181 fk12_20 rfl ?_
          refine xs_iload_n d251_84 rfl ?_
          refine xs_iconst (v := 1) d251_85 (by decide) ?_
          refine xs_iadd d251_86 ?_
          obtain ⟨hin8, hf⟩ := lk_g hf
          refine xe_iald d251_87 (by decide) ak56 hin8 ?_
          obtain eR := K0 _ (Option.some.inj hf).symm
          subst eR
          exact xs_iret d251_88 rt251
        · skip
          rcases lk_if hf with ⟨hc9, hf⟩ | ⟨hc9, hf⟩
          · refine xs_tableIn (tgt := 89) d251_1 (by rw [hc9]; decide) (by rw [hc9]; decide) (by rw [hc9]; first | done | rfl) (by decide) ?_
            refine xs_aload_n d251_89 rfl ?_
            refine xe_geti d251_90 ky251 fl163 fk12_2 ?_
            obtain eR := K0 _ (Option.some.inj hf).symm
            subst eR
            exact xs_iret d251_93 rt251
          · skip
            rcases lk_if hf with ⟨hc10, hf⟩ | ⟨hc10, hf⟩
            · refine xs_tableIn (tgt := 94) d251_1 (by rw [hc10]; decide) (by rw [hc10]; decide) (by rw [hc10]; first | done | rfl) (by decide) ?_
              refine xs_aload_n d251_94 rfl ?_
              refine xe_geti d251_95 ky251 fl182 fk12_21 ?_
              obtain eR := K0 _ (Option.some.inj hf).symm
              subst eR
              exact xs_iret d251_98 rt251
            · skip
              rcases lk_if hf with ⟨hc11, hf⟩ | ⟨hc11, hf⟩
              · refine xs_tableIn (tgt := 99) d251_1 (by rw [hc11]; decide) (by rw [hc11]; decide) (by rw [hc11]; first | done | rfl) (by decide) ?_
                refine xs_aload_n d251_99 rfl ?_
                refine xe_getc (j := 0) d251_100 ky251 fl181 fk12_20 rfl ?_
                refine xs_bipush (v := 10) d251_103 (by decide) ?_
                refine xe_iald d251_105 (by decide) ak56 (show xib (10 : Int32) 101 by decide) ?_
                obtain eR := K0 _ (Option.some.inj hf).symm
                subst eR
                exact xs_iret d251_106 rt251
              · skip
                rcases lk_if hf with ⟨hc12, hf⟩ | ⟨hc12, hf⟩
                · refine xs_tableIn (tgt := 107) d251_1 (by rw [hc12]; decide) (by rw [hc12]; decide) (by rw [hc12]; first | done | rfl) (by decide) ?_
                  refine xs_aload_n d251_107 rfl ?_
                  refine xe_getc (j := 0) d251_108 ky251 fl181 fk12_20 rfl ?_
                  refine xs_bipush (v := 11) d251_111 (by decide) ?_
                  refine xe_iald d251_113 (by decide) ak56 (show xib (11 : Int32) 101 by decide) ?_
                  obtain eR := K0 _ (Option.some.inj hf).symm
                  subst eR
                  exact xs_iret d251_114 rt251
                · skip
                  rcases lk_if hf with ⟨hc13, hf⟩ | ⟨hc13, hf⟩
                  · refine xs_tableIn (tgt := 115) d251_1 (by rw [hc13]; decide) (by rw [hc13]; decide) (by rw [hc13]; first | done | rfl) (by decide) ?_
                    refine xs_aload_n d251_115 rfl ?_
                    obtain ⟨r14, hc15, hf⟩ := lk_b hf
                    refine xe_callv1 (as := []) (st := []) (h2 := h) (d2 := d - 1) d251_116 ky251 ml231 st187 (by decide) cn187 rfl na187 (Nat.le_of_ble_eq_true rfl) (by omega) (f_M_inside_ok (by omega) hc15) ?_
                    obtain eR := K0 _ (Option.some.inj hf).symm
                    subst eR
                    exact xs_iret d251_119 rt251
                  · skip
                    rcases lk_if hf with ⟨hc16, hf⟩ | ⟨hc16, hf⟩
                    · refine xs_tableIn (tgt := 120) d251_1 (by rw [hc16]; decide) (by rw [hc16]; decide) (by rw [hc16]; first | done | rfl) (by decide) ?_
                      refine xs_aload_n d251_120 rfl ?_
                      obtain ⟨r17, hc18, hf⟩ := lk_b hf
                      refine xe_callv1 (as := []) (st := []) (h2 := h) (d2 := d - 1) d251_121 ky251 ml235 st189 (by decide) cn189 rfl na189 (Nat.le_of_ble_eq_true rfl) (by omega) (f_M_looseOnes_ok (by omega) hc18) ?_
                      obtain eR := K0 _ (Option.some.inj hf).symm
                      subst eR
                      exact xs_iret d251_124 rt251
                    · skip
                      rcases lk_if hf with ⟨hc19, hf⟩ | ⟨hc19, hf⟩
                      · refine xs_tableIn (tgt := 125) d251_1 (by rw [hc19]; decide) (by rw [hc19]; decide) (by rw [hc19]; first | done | rfl) (by decide) ?_
                        refine xs_aload_n d251_125 rfl ?_
                        obtain ⟨r20, hc21, hf⟩ := lk_b hf
                        refine xe_callv1 (as := []) (st := []) (h2 := h) (d2 := d - 1) d251_126 ky251 ml238 st192 (by decide) cn192 rfl na192 (Nat.le_of_ble_eq_true rfl) (by omega) (f_M_letBe_ok (by omega) hc21) ?_
                        obtain eR := K0 _ (Option.some.inj hf).symm
                        subst eR
                        exact xs_iret d251_129 rt251
                      · skip
                        rcases lk_if hf with ⟨hc22, hf⟩ | ⟨hc22, hf⟩
                        · refine xs_tableIn (tgt := 130) d251_1 (by rw [hc22]; decide) (by rw [hc22]; decide) (by rw [hc22]; first | done | rfl) (by decide) ?_
                          refine xs_aload_n d251_130 rfl ?_
                          obtain ⟨r23, hc24, hf⟩ := lk_b hf
                          refine xe_callv1 (as := []) (st := []) (h2 := h) (d2 := d - 1) d251_131 ky251 ml236 st193 (by decide) cn193 rfl na193 (Nat.le_of_ble_eq_true rfl) (by omega) (f_M_loadNow_ok (by omega) hc24) ?_
                          obtain eR := K0 _ (Option.some.inj hf).symm
                          subst eR
                          exact xs_iret d251_134 rt251
                        · skip
                          rcases lk_if hf with ⟨hc25, hf⟩ | ⟨hc25, hf⟩
                          · refine xs_tableIn (tgt := 135) d251_1 (by rw [hc25]; decide) (by rw [hc25]; decide) (by rw [hc25]; first | done | rfl) (by decide) ?_
                            refine xs_aload_n d251_135 rfl ?_
                            refine xe_getc (j := 0) d251_136 ky251 fl181 fk12_20 rfl ?_
                            refine xs_bipush (v := 100) d251_139 (by decide) ?_
                            refine xe_iald d251_141 (by decide) ak56 (show xib (100 : Int32) 101 by decide) ?_
                            obtain eR := K0 _ (Option.some.inj hf).symm
                            subst eR
                            exact xs_iret d251_142 rt251
                          · skip
                            rcases lk_if hf with ⟨hc26, hf⟩ | ⟨hc26, hf⟩
                            · refine xs_tableIn (tgt := 143) d251_1 (by rw [hc26]; decide) (by rw [hc26]; decide) (by rw [hc26]; first | done | rfl) (by decide) ?_
                              refine xs_aload_n d251_143 rfl ?_
                              refine xe_geti d251_144 ky251 fl185 fk12_24 ?_
                              obtain eR := K0 _ (Option.some.inj hf).symm
                              subst eR
                              exact xs_iret d251_147 rt251
                            · skip
                              rcases lk_if hf with ⟨hc27, hf⟩ | ⟨hc27, hf⟩
                              · refine xs_tableIn (tgt := 148) d251_1 (by rw [hc27]; decide) (by rw [hc27]; decide) (by rw [hc27]; first | done | rfl) (by decide) ?_
                                refine xs_aload_n d251_148 rfl ?_
                                refine xe_geti d251_149 ky251 fl183 fk12_22 ?_
                                obtain eR := K0 _ (Option.some.inj hf).symm
                                subst eR
                                exact xs_iret d251_152 rt251
                              · skip
                                rcases lk_if hf with ⟨hc28, hf⟩ | ⟨hc28, hf⟩
                                · refine xs_tableIn (tgt := 153) d251_1 (by rw [hc28]; decide) (by rw [hc28]; decide) (by rw [hc28]; first | done | rfl) (by decide) ?_
                                  refine xs_aload_n d251_153 rfl ?_
                                  refine xe_geti d251_154 ky251 fl162 fk12_1 ?_
                                  obtain eR := K0 _ (Option.some.inj hf).symm
                                  subst eR
                                  exact xs_iret d251_157 rt251
                                · skip
                                  refine xs_tableOut (tgt := 158) d251_1 (xsw_out (fun k q1 q2 => ?_)) (by decide) ?_
                                  · rcases (show k = 0 ∨ k = 1 ∨ k = 2 ∨ k = 3 ∨ k = 4 ∨ k = 5 ∨ k = 6 ∨ k = 7 ∨ k = 8 ∨ k = 9 ∨ k = 10 ∨ k = 11 ∨ k = 12 ∨ k = 13 ∨ k = 14 ∨ k = 15 by omega) with rfl | rfl | rfl | rfl | rfl | rfl | rfl | rfl | rfl | rfl | rfl | rfl | rfl | rfl | rfl | rfl
                                    · exact fun e => hc1 (e.trans (by decide))
                                    · exact fun e => hc3 (e.trans (by decide))
                                    · exact fun e => hc5 (e.trans (by decide))
                                    · exact fun e => hc7 (e.trans (by decide))
                                    · exact fun e => hc9 (e.trans (by decide))
                                    · exact fun e => hc10 (e.trans (by decide))
                                    · exact fun e => hc11 (e.trans (by decide))
                                    · exact fun e => hc12 (e.trans (by decide))
                                    · exact fun e => hc13 (e.trans (by decide))
                                    · exact fun e => hc16 (e.trans (by decide))
                                    · exact fun e => hc19 (e.trans (by decide))
                                    · exact fun e => hc22 (e.trans (by decide))
                                    · exact fun e => hc25 (e.trans (by decide))
                                    · exact fun e => hc26 (e.trans (by decide))
                                    · exact fun e => hc27 (e.trans (by decide))
                                    · exact fun e => hc28 (e.trans (by decide))
                                  · skip
                                    refine xs_iconst (v := -1) d251_158 (by decide) ?_
                                    obtain eR := K0 _ (Option.some.inj hf).symm
                                    subst eR
                                    exact xs_iret d251_159 rt251
noncomputable def f_M_count (v1 : Int32) (h : xH) : Option Int32 := f_M_count_e v1 h
theorem f_M_count_ok {g : xG} {l : Launch} {d : Nat} {v1 : Int32} {h : xH} {r : Int32} (hD : 5 ≤ d) (hf : f_M_count v1 h = some r) : xC g l d 251 [xr 12 (some 0), xi v1] h (some (xi r)) h :=
  xC_of2 (by decide) mx251 (Nat.le_of_ble_eq_true rfl) (f_M_count_e_ok hD hf (fun _ e => by rw [e]))
theorem d252_0 : decode (xcode 252) 0 = .ok (.iload_n 1, 1) := by decide +kernel
theorem d252_1 : decode (xcode 252) 1 = .ok (.i2l, 1) := by decide +kernel
theorem d252_2 : decode (xcode 252) 2 = .ok (.lconst 0, 1) := by decide +kernel
theorem d252_3 : decode (xcode 252) 3 = .ok (.ldc2_w 361, 3) := by decide +kernel
theorem d252_6 : decode (xcode 252) 6 = .ok (.invokestatic 124, 3) := by decide +kernel
theorem d252_9 : decode (xcode 252) 9 = .ok (.ifCond .ne 5, 3) := by decide +kernel
theorem d252_12 : decode (xcode 252) 12 = .ok (.iconst (-1), 1) := by decide +kernel
theorem d252_13 : decode (xcode 252) 13 = .ok (.ireturn, 1) := by decide +kernel
theorem d252_14 : decode (xcode 252) 14 = .ok (.aload_n 0, 1) := by decide +kernel
theorem d252_15 : decode (xcode 252) 15 = .ok (.getfield 83, 3) := by decide +kernel
theorem d252_18 : decode (xcode 252) 18 = .ok (.iload_n 1, 1) := by decide +kernel
theorem d252_19 : decode (xcode 252) 19 = .ok (.iconst 1, 1) := by decide +kernel
theorem d252_20 : decode (xcode 252) 20 = .ok (.bastore, 1) := by decide +kernel
theorem d252_21 : decode (xcode 252) 21 = .ok (.aload_n 0, 1) := by decide +kernel
theorem d252_22 : decode (xcode 252) 22 = .ok (.getfield 77, 3) := by decide +kernel
theorem d252_25 : decode (xcode 252) 25 = .ok (.iload_n 1, 1) := by decide +kernel
theorem d252_26 : decode (xcode 252) 26 = .ok (.aload_n 0, 1) := by decide +kernel
theorem d252_27 : decode (xcode 252) 27 = .ok (.getfield 42, 3) := by decide +kernel
theorem d252_30 : decode (xcode 252) 30 = .ok (.iastore, 1) := by decide +kernel
theorem d252_31 : decode (xcode 252) 31 = .ok (.aload_n 0, 1) := by decide +kernel
theorem d252_32 : decode (xcode 252) 32 = .ok (.getfield 80, 3) := by decide +kernel
theorem d252_35 : decode (xcode 252) 35 = .ok (.iload_n 1, 1) := by decide +kernel
theorem d252_36 : decode (xcode 252) 36 = .ok (.aload_n 0, 1) := by decide +kernel
theorem d252_37 : decode (xcode 252) 37 = .ok (.getfield 441, 3) := by decide +kernel
theorem d252_40 : decode (xcode 252) 40 = .ok (.iastore, 1) := by decide +kernel
theorem d252_41 : decode (xcode 252) 41 = .ok (.iconst 0, 1) := by decide +kernel
theorem d252_42 : decode (xcode 252) 42 = .ok (.istore_n 2, 1) := by decide +kernel
theorem d252_43 : decode (xcode 252) 43 = .ok (.iload_n 2, 1) := by decide +kernel
theorem d252_44 : decode (xcode 252) 44 = .ok (.bipush 101, 2) := by decide +kernel
theorem d252_46 : decode (xcode 252) 46 = .ok (.if_icmp .ge 26, 3) := by decide +kernel
theorem d252_49 : decode (xcode 252) 49 = .ok (.aload_n 0, 1) := by decide +kernel
theorem d252_50 : decode (xcode 252) 50 = .ok (.getfield 74, 3) := by decide +kernel
theorem d252_53 : decode (xcode 252) 53 = .ok (.bipush 101, 2) := by decide +kernel
theorem d252_55 : decode (xcode 252) 55 = .ok (.iload_n 1, 1) := by decide +kernel
theorem d252_56 : decode (xcode 252) 56 = .ok (.imul, 1) := by decide +kernel
theorem d252_57 : decode (xcode 252) 57 = .ok (.iload_n 2, 1) := by decide +kernel
theorem d252_58 : decode (xcode 252) 58 = .ok (.iadd, 1) := by decide +kernel
theorem d252_59 : decode (xcode 252) 59 = .ok (.aload_n 0, 1) := by decide +kernel
theorem d252_60 : decode (xcode 252) 60 = .ok (.getfield 39, 3) := by decide +kernel
theorem d252_63 : decode (xcode 252) 63 = .ok (.iload_n 2, 1) := by decide +kernel
theorem d252_64 : decode (xcode 252) 64 = .ok (.iaload, 1) := by decide +kernel
theorem d252_65 : decode (xcode 252) 65 = .ok (.iastore, 1) := by decide +kernel
theorem d252_66 : decode (xcode 252) 66 = .ok (.iinc 2 1, 3) := by decide +kernel
theorem d252_69 : decode (xcode 252) 69 = .ok (.goto (-26), 3) := by decide +kernel
theorem d252_72 : decode (xcode 252) 72 = .ok (.aload_n 0, 1) := by decide +kernel
theorem d252_73 : decode (xcode 252) 73 = .ok (.getfield 39, 3) := by decide +kernel
theorem d252_76 : decode (xcode 252) 76 = .ok (.bipush 10, 2) := by decide +kernel
theorem d252_78 : decode (xcode 252) 78 = .ok (.iaload, 1) := by decide +kernel
theorem d252_79 : decode (xcode 252) 79 = .ok (.ireturn, 1) := by decide +kernel
noncomputable def f_M_image_b72 (h : xH) : Option (Int32 × xH) :=
  some ((h.2.2.2.1 56 0 ((10 : Int32)).toNatClampNeg, h))
set_option maxHeartbeats 4000000 in
set_option maxRecDepth 100000 in
theorem f_M_image_b72_ok {g : xG} {l : Launch} {d : Nat} {h : xH} {o : (Int32 × xH)} {R : Option xV} {H' : xH} (hD : 1 ≤ d) (hf : f_M_image_b72 h = some o) (K0 : ∀ (a : Int32) (h1 : xH), o = (a, h1) → R = some (xi a) ∧ H' = h1) : xEv g l d 252 72 [(0, xr 12 (some 0))] [] h R H' := by
  unfold f_M_image_b72 at hf
  refine xs_aload_n d252_72 rfl ?_
  refine xe_getc (j := 0) d252_73 ky252 fl181 fk12_20 rfl ?_
  refine xs_bipush (v := 10) d252_76 (by decide) ?_
  refine xe_iald d252_78 (by decide) ak56 (show xib (10 : Int32) 101 by decide) ?_
  obtain ⟨eR, eH⟩ := K0 _ _ (Option.some.inj hf).symm
  subst eR; subst eH
  exact xs_iret d252_79 rt252
noncomputable def f_M_image_s43 (v1 : Int32) (v2 : Int32) (h : xH) : Option ((Int32 × xH) ⊕ (Int32 × xH)) :=
  if (101 : Int32) ≤ v2 then (
  xup (f_M_image_b72 h)) else (
  if xib v2 101 then (
  if xib (((101 : Int32) * v1) + v2) 404 then (
  xlet (xsA h 66 0 (upd (h.2.2.2.1 66 0) (((101 : Int32) * v1) + v2).toNatClampNeg (h.2.2.2.1 56 0 (v2).toNatClampNeg))) fun h13 =>
  xlet (v2 + (1 : Int32)) fun v2_14 =>
  some (Sum.inl (v2_14, h13))) else none) else none)
set_option maxHeartbeats 4000000 in
set_option maxRecDepth 100000 in
theorem f_M_image_s43_ok {g : xG} {l : Launch} {d : Nat} {v1 : Int32} {v2 : Int32} {h : xH} {o : ((Int32 × xH) ⊕ (Int32 × xH))} {R : Option xV} {H' : xH} (hD : 1 ≤ d) (hf : f_M_image_s43 v1 v2 h = some o) (K1 : ∀ (w2 : Int32) (h1 : xH), o = Sum.inl (w2, h1) → xEv g l d 252 43 [(0, xr 12 (some 0)), (1, xi v1), (2, xi w2)] [] h1 R H') (K0 : ∀ (a : Int32) (h1 : xH), o = Sum.inr ((a, h1)) → R = some (xi a) ∧ H' = h1) : xEv g l d 252 43 [(0, xr 12 (some 0)), (1, xi v1), (2, xi v2)] [] h R H' := by
  unfold f_M_image_s43 at hf
  refine xs_iload_n d252_43 rfl ?_
  refine xs_bipush (v := 101) d252_44 (by decide) ?_
  rcases lk_if hf with ⟨hc10, hf⟩ | ⟨hc10, hf⟩
  · refine xs_icmp_ge (tgt := 72) d252_46 (by decide) (fun _ => ?_) (fun hn => absurd hc10 hn)
    refine xs_pick [0] rfl ?_
    obtain ⟨x0, hf, ex0⟩ := lk_up hf
    exact f_M_image_b72_ok hD hf (fun u0 u1 e => K0 u0 u1 (ex0.trans (congrArg Sum.inr e)))
  · refine xs_icmp_ge (tgt := 72) d252_46 (by decide) (fun hp => absurd hp hc10) (fun _ => ?_)
    refine xs_aload_n d252_49 rfl ?_
    refine xe_getc (j := 0) d252_50 ky252 fl198 fk12_37 rfl ?_
    refine xs_bipush (v := 101) d252_53 (by decide) ?_
    refine xs_iload_n d252_55 rfl ?_
    refine xs_imul d252_56 ?_
    refine xs_iload_n d252_57 rfl ?_
    refine xs_iadd d252_58 ?_
    refine xs_aload_n d252_59 rfl ?_
    refine xe_getc (j := 0) d252_60 ky252 fl181 fk12_20 rfl ?_
    refine xs_iload_n d252_63 rfl ?_
    obtain ⟨hin11, hf⟩ := lk_g hf
    refine xe_iald d252_64 (by decide) ak56 hin11 ?_
    obtain ⟨hin12, hf⟩ := lk_g hf
    obtain ⟨h13, eh13, hf⟩ := lk_let hf
    refine xe_iast d252_65 (by decide) ak66 hin12  eh13 ?_
    obtain ⟨v2_14, ev2_14, hf⟩ := lk_let hf
    refine xe_iinc (v := v2_14) (b := 1) (ls2 := [(0, xr 12 (some 0)), (1, xi v1), (2, xi v2_14)]) d252_66 mx252 (by decide) rfl (by decide) ev2_14 rfl ?_
    refine xs_goto (tgt := 43) d252_69 (by decide) ?_
    exact K1 _ _ (Option.some.inj hf).symm
noncomputable def f_M_image_l43 (v1 : Int32) (v2 : Int32) (h : xH) : Option (Int32 × xH) :=
  whl (fun s => f_M_image_s43 v1 s.1 s.2) (v2, h)
theorem f_M_image_l43_ok {g : xG} {l : Launch} {d : Nat} {v1 : Int32} {v2 : Int32} {h : xH} {o : (Int32 × xH)} {R : Option xV} {H' : xH} (hD : 1 ≤ d) (hf : f_M_image_l43 v1 v2 h = some o) (K0 : ∀ (a : Int32) (h1 : xH), o = (a, h1) → R = some (xi a) ∧ H' = h1) : xEv g l d 252 43 [(0, xr 12 (some 0)), (1, xi v1), (2, xi v2)] [] h R H' := by
  obtain ⟨n, hn⟩ := whl_iff.mp hf
  clear hf
  induction n generalizing v2 h with
  | zero => cases hn
  | succ n ih =>
    obtain ⟨o2, hs, hn⟩ := lk_b (show (f_M_image_s43 v1 v2 h).bind (fun o => Sum.elim (itn _ n) some o) = some o from hn)
    exact f_M_image_s43_ok hD hs (fun u0 u1 e => ih (by rw [e] at hn; exact hn)) (fun u0 u1 e => K0 u0 u1 (by rw [e] at hn; exact (Option.some.inj hn).symm))
noncomputable def f_M_image_e (v1 : Int32) (h : xH) : Option (Int32 × xH) :=
  (f_M_in ((v1).toInt64) (0 : Int64) (3 : Int64) h).bind fun r1 =>
  if r1 = (0 : Int32) then (
  some (((-1 : Int32), h))) else (
  if xib v1 4 then (
  xlet (xsA h 69 0 (upd (h.2.2.2.1 69 0) (v1).toNatClampNeg (1 : Int32))) fun h5 =>
  if xib v1 4 then (
  xlet (xsA h5 67 0 (upd (h5.2.2.2.1 67 0) (v1).toNatClampNeg (h5.1 12 21 0))) fun h7 =>
  if xib v1 4 then (
  xlet (xsA h7 68 0 (upd (h7.2.2.2.1 68 0) (v1).toNatClampNeg (h7.1 12 22 0))) fun h9 =>
  f_M_image_l43 v1 (0 : Int32) h9) else none) else none) else none)
set_option maxHeartbeats 4000000 in
set_option maxRecDepth 100000 in
theorem f_M_image_e_ok {g : xG} {l : Launch} {d : Nat} {v1 : Int32} {h : xH} {o : (Int32 × xH)} {R : Option xV} {H' : xH} (hD : 1 ≤ d) (hf : f_M_image_e v1 h = some o) (K0 : ∀ (a : Int32) (h1 : xH), o = (a, h1) → R = some (xi a) ∧ H' = h1) : xEv g l d 252 0 [(0, xr 12 (some 0)), (1, xi v1)] [] h R H' := by
  unfold f_M_image_e at hf
  refine xs_iload_n d252_0 rfl ?_
  refine xs_i2l d252_1 ?_
  refine xs_lconst (v := 0) d252_2 (by decide) ?_
  refine xs_ldc2 (v := 3) d252_3 cl12_361 ?_
  obtain ⟨r1, hc2, hf⟩ := lk_b hf
  refine xe_calls1 (as := [xl ((v1).toInt64), xl (0 : Int64), xl (3 : Int64)]) (st := []) (h2 := h) (d2 := d - 1) d252_6 ky252 ml196 st139 rfl na139 (Nat.le_of_ble_eq_true rfl) (by omega) (f_M_in_ok (by omega) hc2) ?_
  rcases lk_if hf with ⟨hc3, hf⟩ | ⟨hc3, hf⟩
  · refine xs_if_ne (tgt := 14) d252_9 (by decide) (fun _ => ?_) (fun hn => absurd hc3 hn)
    refine xs_iconst (v := -1) d252_12 (by decide) ?_
    obtain ⟨eR, eH⟩ := K0 _ _ (Option.some.inj hf).symm
    subst eR; subst eH
    exact xs_iret d252_13 rt252
  · refine xs_if_ne (tgt := 14) d252_9 (by decide) (fun hp => absurd hp hc3) (fun _ => ?_)
    refine xs_aload_n d252_14 rfl ?_
    refine xe_getc (j := 0) d252_15 ky252 fl201 fk12_40 rfl ?_
    refine xs_iload_n d252_18 rfl ?_
    refine xs_iconst (v := 1) d252_19 (by decide) ?_
    obtain ⟨hin4, hf⟩ := lk_g hf
    obtain ⟨h5, eh5, hf⟩ := lk_let hf
    refine xe_zast d252_20 (by decide) ak69 hin4 (Or.inr rfl) eh5 ?_
    refine xs_aload_n d252_21 rfl ?_
    refine xe_getc (j := 0) d252_22 ky252 fl199 fk12_38 rfl ?_
    refine xs_iload_n d252_25 rfl ?_
    refine xs_aload_n d252_26 rfl ?_
    refine xe_geti d252_27 ky252 fl182 fk12_21 ?_
    obtain ⟨hin6, hf⟩ := lk_g hf
    obtain ⟨h7, eh7, hf⟩ := lk_let hf
    refine xe_iast d252_30 (by decide) ak67 hin6  eh7 ?_
    refine xs_aload_n d252_31 rfl ?_
    refine xe_getc (j := 0) d252_32 ky252 fl200 fk12_39 rfl ?_
    refine xs_iload_n d252_35 rfl ?_
    refine xs_aload_n d252_36 rfl ?_
    refine xe_geti d252_37 ky252 fl183 fk12_22 ?_
    obtain ⟨hin8, hf⟩ := lk_g hf
    obtain ⟨h9, eh9, hf⟩ := lk_let hf
    refine xe_iast d252_40 (by decide) ak68 hin8  eh9 ?_
    refine xs_iconst (v := 0) d252_41 (by decide) ?_
    refine xe_istore_n (v := (0 : Int32)) (ls2 := [(0, xr 12 (some 0)), (1, xi v1), (2, xi (0 : Int32))]) d252_42 mx252 (by decide) rfl rfl ?_
    exact f_M_image_l43_ok hD hf K0
noncomputable def f_M_image (v1 : Int32) (h : xH) : Option (Int32 × xH) := f_M_image_e v1 h
theorem f_M_image_ok {g : xG} {l : Launch} {d : Nat} {v1 : Int32} {h : xH} {r : Int32} {h1 : xH} (hD : 1 ≤ d) (hf : f_M_image v1 h = some (r, h1)) : xC g l d 252 [xr 12 (some 0), xi v1] h (some (xi r)) h1 :=
  xC_of2 (by decide) mx252 (Nat.le_of_ble_eq_true rfl) (f_M_image_e_ok hD hf (fun _ _ e => by cases e; exact ⟨rfl, rfl⟩))
theorem d253_0 : decode (xcode 253) 0 = .ok (.iload_n 1, 1) := by decide +kernel
theorem d253_1 : decode (xcode 253) 1 = .ok (.i2l, 1) := by decide +kernel
theorem d253_2 : decode (xcode 253) 2 = .ok (.lconst 0, 1) := by decide +kernel
theorem d253_3 : decode (xcode 253) 3 = .ok (.ldc2_w 361, 3) := by decide +kernel
theorem d253_6 : decode (xcode 253) 6 = .ok (.invokestatic 124, 3) := by decide +kernel
theorem d253_9 : decode (xcode 253) 9 = .ok (.ifCond .eq 12, 3) := by decide +kernel
theorem d253_12 : decode (xcode 253) 12 = .ok (.aload_n 0, 1) := by decide +kernel
theorem d253_13 : decode (xcode 253) 13 = .ok (.getfield 83, 3) := by decide +kernel
theorem d253_16 : decode (xcode 253) 16 = .ok (.iload_n 1, 1) := by decide +kernel
theorem d253_17 : decode (xcode 253) 17 = .ok (.baload, 1) := by decide +kernel
theorem d253_18 : decode (xcode 253) 18 = .ok (.ifCond .ne 5, 3) := by decide +kernel
theorem d253_21 : decode (xcode 253) 21 = .ok (.iconst (-1), 1) := by decide +kernel
theorem d253_22 : decode (xcode 253) 22 = .ok (.ireturn, 1) := by decide +kernel
theorem d253_23 : decode (xcode 253) 23 = .ok (.aload_n 0, 1) := by decide +kernel
theorem d253_24 : decode (xcode 253) 24 = .ok (.aload_n 0, 1) := by decide +kernel
theorem d253_25 : decode (xcode 253) 25 = .ok (.getfield 77, 3) := by decide +kernel
theorem d253_28 : decode (xcode 253) 28 = .ok (.iload_n 1, 1) := by decide +kernel
theorem d253_29 : decode (xcode 253) 29 = .ok (.iaload, 1) := by decide +kernel
theorem d253_30 : decode (xcode 253) 30 = .ok (.putfield 42, 3) := by decide +kernel
theorem d253_33 : decode (xcode 253) 33 = .ok (.aload_n 0, 1) := by decide +kernel
theorem d253_34 : decode (xcode 253) 34 = .ok (.aload_n 0, 1) := by decide +kernel
theorem d253_35 : decode (xcode 253) 35 = .ok (.getfield 80, 3) := by decide +kernel
theorem d253_38 : decode (xcode 253) 38 = .ok (.iload_n 1, 1) := by decide +kernel
theorem d253_39 : decode (xcode 253) 39 = .ok (.iaload, 1) := by decide +kernel
theorem d253_40 : decode (xcode 253) 40 = .ok (.putfield 441, 3) := by decide +kernel
theorem d253_43 : decode (xcode 253) 43 = .ok (.aload_n 0, 1) := by decide +kernel
theorem d253_44 : decode (xcode 253) 44 = .ok (.iconst 0, 1) := by decide +kernel
theorem d253_45 : decode (xcode 253) 45 = .ok (.putfield 272, 3) := by decide +kernel
theorem d253_48 : decode (xcode 253) 48 = .ok (.iconst 0, 1) := by decide +kernel
theorem d253_49 : decode (xcode 253) 49 = .ok (.istore_n 2, 1) := by decide +kernel
theorem d253_50 : decode (xcode 253) 50 = .ok (.iload_n 2, 1) := by decide +kernel
theorem d253_51 : decode (xcode 253) 51 = .ok (.bipush 101, 2) := by decide +kernel
theorem d253_53 : decode (xcode 253) 53 = .ok (.if_icmp .ge 26, 3) := by decide +kernel
theorem d253_56 : decode (xcode 253) 56 = .ok (.aload_n 0, 1) := by decide +kernel
theorem d253_57 : decode (xcode 253) 57 = .ok (.getfield 39, 3) := by decide +kernel
theorem d253_60 : decode (xcode 253) 60 = .ok (.iload_n 2, 1) := by decide +kernel
theorem d253_61 : decode (xcode 253) 61 = .ok (.aload_n 0, 1) := by decide +kernel
theorem d253_62 : decode (xcode 253) 62 = .ok (.getfield 74, 3) := by decide +kernel
theorem d253_65 : decode (xcode 253) 65 = .ok (.bipush 101, 2) := by decide +kernel
theorem d253_67 : decode (xcode 253) 67 = .ok (.iload_n 1, 1) := by decide +kernel
theorem d253_68 : decode (xcode 253) 68 = .ok (.imul, 1) := by decide +kernel
theorem d253_69 : decode (xcode 253) 69 = .ok (.iload_n 2, 1) := by decide +kernel
theorem d253_70 : decode (xcode 253) 70 = .ok (.iadd, 1) := by decide +kernel
theorem d253_71 : decode (xcode 253) 71 = .ok (.iaload, 1) := by decide +kernel
theorem d253_72 : decode (xcode 253) 72 = .ok (.iastore, 1) := by decide +kernel
theorem d253_73 : decode (xcode 253) 73 = .ok (.iinc 2 1, 3) := by decide +kernel
theorem d253_76 : decode (xcode 253) 76 = .ok (.goto (-26), 3) := by decide +kernel
theorem d253_79 : decode (xcode 253) 79 = .ok (.aload_n 0, 1) := by decide +kernel
theorem d253_80 : decode (xcode 253) 80 = .ok (.getfield 39, 3) := by decide +kernel
theorem d253_83 : decode (xcode 253) 83 = .ok (.bipush 10, 2) := by decide +kernel
theorem d253_85 : decode (xcode 253) 85 = .ok (.iaload, 1) := by decide +kernel
theorem d253_86 : decode (xcode 253) 86 = .ok (.ireturn, 1) := by decide +kernel
noncomputable def f_M_back_b79 (h : xH) : Option (Int32 × xH) :=
  some ((h.2.2.2.1 56 0 ((10 : Int32)).toNatClampNeg, h))
set_option maxHeartbeats 4000000 in
set_option maxRecDepth 100000 in
theorem f_M_back_b79_ok {g : xG} {l : Launch} {d : Nat} {h : xH} {o : (Int32 × xH)} {R : Option xV} {H' : xH} (hD : 1 ≤ d) (hf : f_M_back_b79 h = some o) (K0 : ∀ (a : Int32) (h1 : xH), o = (a, h1) → R = some (xi a) ∧ H' = h1) : xEv g l d 253 79 [(0, xr 12 (some 0))] [] h R H' := by
  unfold f_M_back_b79 at hf
  refine xs_aload_n d253_79 rfl ?_
  refine xe_getc (j := 0) d253_80 ky253 fl181 fk12_20 rfl ?_
  refine xs_bipush (v := 10) d253_83 (by decide) ?_
  refine xe_iald d253_85 (by decide) ak56 (show xib (10 : Int32) 101 by decide) ?_
  obtain ⟨eR, eH⟩ := K0 _ _ (Option.some.inj hf).symm
  subst eR; subst eH
  exact xs_iret d253_86 rt253
noncomputable def f_M_back_s50 (v1 : Int32) (v2 : Int32) (h : xH) : Option ((Int32 × xH) ⊕ (Int32 × xH)) :=
  if (101 : Int32) ≤ v2 then (
  xup (f_M_back_b79 h)) else (
  if xib (((101 : Int32) * v1) + v2) 404 then (
  if xib v2 101 then (
  xlet (xsA h 56 0 (upd (h.2.2.2.1 56 0) (v2).toNatClampNeg (h.2.2.2.1 66 0 (((101 : Int32) * v1) + v2).toNatClampNeg))) fun h14 =>
  xlet (v2 + (1 : Int32)) fun v2_15 =>
  some (Sum.inl (v2_15, h14))) else none) else none)
set_option maxHeartbeats 4000000 in
set_option maxRecDepth 100000 in
theorem f_M_back_s50_ok {g : xG} {l : Launch} {d : Nat} {v1 : Int32} {v2 : Int32} {h : xH} {o : ((Int32 × xH) ⊕ (Int32 × xH))} {R : Option xV} {H' : xH} (hD : 1 ≤ d) (hf : f_M_back_s50 v1 v2 h = some o) (K1 : ∀ (w2 : Int32) (h1 : xH), o = Sum.inl (w2, h1) → xEv g l d 253 50 [(0, xr 12 (some 0)), (1, xi v1), (2, xi w2)] [] h1 R H') (K0 : ∀ (a : Int32) (h1 : xH), o = Sum.inr ((a, h1)) → R = some (xi a) ∧ H' = h1) : xEv g l d 253 50 [(0, xr 12 (some 0)), (1, xi v1), (2, xi v2)] [] h R H' := by
  unfold f_M_back_s50 at hf
  refine xs_iload_n d253_50 rfl ?_
  refine xs_bipush (v := 101) d253_51 (by decide) ?_
  rcases lk_if hf with ⟨hc11, hf⟩ | ⟨hc11, hf⟩
  · refine xs_icmp_ge (tgt := 79) d253_53 (by decide) (fun _ => ?_) (fun hn => absurd hc11 hn)
    refine xs_pick [0] rfl ?_
    obtain ⟨x0, hf, ex0⟩ := lk_up hf
    exact f_M_back_b79_ok hD hf (fun u0 u1 e => K0 u0 u1 (ex0.trans (congrArg Sum.inr e)))
  · refine xs_icmp_ge (tgt := 79) d253_53 (by decide) (fun hp => absurd hp hc11) (fun _ => ?_)
    refine xs_aload_n d253_56 rfl ?_
    refine xe_getc (j := 0) d253_57 ky253 fl181 fk12_20 rfl ?_
    refine xs_iload_n d253_60 rfl ?_
    refine xs_aload_n d253_61 rfl ?_
    refine xe_getc (j := 0) d253_62 ky253 fl198 fk12_37 rfl ?_
    refine xs_bipush (v := 101) d253_65 (by decide) ?_
    refine xs_iload_n d253_67 rfl ?_
    refine xs_imul d253_68 ?_
    refine xs_iload_n d253_69 rfl ?_
    refine xs_iadd d253_70 ?_
    obtain ⟨hin12, hf⟩ := lk_g hf
    refine xe_iald d253_71 (by decide) ak66 hin12 ?_
    obtain ⟨hin13, hf⟩ := lk_g hf
    obtain ⟨h14, eh14, hf⟩ := lk_let hf
    refine xe_iast d253_72 (by decide) ak56 hin13  eh14 ?_
    obtain ⟨v2_15, ev2_15, hf⟩ := lk_let hf
    refine xe_iinc (v := v2_15) (b := 1) (ls2 := [(0, xr 12 (some 0)), (1, xi v1), (2, xi v2_15)]) d253_73 mx253 (by decide) rfl (by decide) ev2_15 rfl ?_
    refine xs_goto (tgt := 50) d253_76 (by decide) ?_
    exact K1 _ _ (Option.some.inj hf).symm
noncomputable def f_M_back_l50 (v1 : Int32) (v2 : Int32) (h : xH) : Option (Int32 × xH) :=
  whl (fun s => f_M_back_s50 v1 s.1 s.2) (v2, h)
theorem f_M_back_l50_ok {g : xG} {l : Launch} {d : Nat} {v1 : Int32} {v2 : Int32} {h : xH} {o : (Int32 × xH)} {R : Option xV} {H' : xH} (hD : 1 ≤ d) (hf : f_M_back_l50 v1 v2 h = some o) (K0 : ∀ (a : Int32) (h1 : xH), o = (a, h1) → R = some (xi a) ∧ H' = h1) : xEv g l d 253 50 [(0, xr 12 (some 0)), (1, xi v1), (2, xi v2)] [] h R H' := by
  obtain ⟨n, hn⟩ := whl_iff.mp hf
  clear hf
  induction n generalizing v2 h with
  | zero => cases hn
  | succ n ih =>
    obtain ⟨o2, hs, hn⟩ := lk_b (show (f_M_back_s50 v1 v2 h).bind (fun o => Sum.elim (itn _ n) some o) = some o from hn)
    exact f_M_back_s50_ok hD hs (fun u0 u1 e => ih (by rw [e] at hn; exact hn)) (fun u0 u1 e => K0 u0 u1 (by rw [e] at hn; exact (Option.some.inj hn).symm))
noncomputable def f_M_back_e (v1 : Int32) (h : xH) : Option (Int32 × xH) :=
  (f_M_in ((v1).toInt64) (0 : Int64) (3 : Int64) h).bind fun r1 =>
  if r1 = (0 : Int32) then (
  some (((-1 : Int32), h))) else (
  if xib v1 4 then (
  if (h.2.2.2.1 69 0 (v1).toNatClampNeg) = (0 : Int32) then (
  some (((-1 : Int32), h))) else (
  if xib v1 4 then (
  xlet (xsI h 12 21 0 (h.2.2.2.1 67 0 (v1).toNatClampNeg)) fun h7 =>
  if xib v1 4 then (
  xlet (xsI h7 12 22 0 (h7.2.2.2.1 68 0 (v1).toNatClampNeg)) fun h9 =>
  xlet (xsI h9 12 24 0 (0 : Int32)) fun h10 =>
  f_M_back_l50 v1 (0 : Int32) h10) else none) else none)) else none)
set_option maxHeartbeats 4000000 in
set_option maxRecDepth 100000 in
theorem f_M_back_e_ok {g : xG} {l : Launch} {d : Nat} {v1 : Int32} {h : xH} {o : (Int32 × xH)} {R : Option xV} {H' : xH} (hD : 1 ≤ d) (hf : f_M_back_e v1 h = some o) (K0 : ∀ (a : Int32) (h1 : xH), o = (a, h1) → R = some (xi a) ∧ H' = h1) : xEv g l d 253 0 [(0, xr 12 (some 0)), (1, xi v1)] [] h R H' := by
  unfold f_M_back_e at hf
  refine xs_iload_n d253_0 rfl ?_
  refine xs_i2l d253_1 ?_
  refine xs_lconst (v := 0) d253_2 (by decide) ?_
  refine xs_ldc2 (v := 3) d253_3 cl12_361 ?_
  obtain ⟨r1, hc2, hf⟩ := lk_b hf
  refine xe_calls1 (as := [xl ((v1).toInt64), xl (0 : Int64), xl (3 : Int64)]) (st := []) (h2 := h) (d2 := d - 1) d253_6 ky253 ml196 st139 rfl na139 (Nat.le_of_ble_eq_true rfl) (by omega) (f_M_in_ok (by omega) hc2) ?_
  rcases lk_if hf with ⟨hc3, hf⟩ | ⟨hc3, hf⟩
  · refine xs_if_eq (tgt := 21) d253_9 (by decide) (fun _ => ?_) (fun hn => absurd hc3 hn)
    refine xs_iconst (v := -1) d253_21 (by decide) ?_
    obtain ⟨eR, eH⟩ := K0 _ _ (Option.some.inj hf).symm
    subst eR; subst eH
    exact xs_iret d253_22 rt253
  · refine xs_if_eq (tgt := 21) d253_9 (by decide) (fun hp => absurd hp hc3) (fun _ => ?_)
    refine xs_aload_n d253_12 rfl ?_
    refine xe_getc (j := 0) d253_13 ky253 fl201 fk12_40 rfl ?_
    refine xs_iload_n d253_16 rfl ?_
    obtain ⟨hin4, hf⟩ := lk_g hf
    refine xe_zald d253_17 (by decide) ak69 hin4 ?_
    rcases lk_if hf with ⟨hc5, hf⟩ | ⟨hc5, hf⟩
    · refine xs_if_ne (tgt := 23) d253_18 (by decide) (fun _ => ?_) (fun hn => absurd hc5 hn)
      refine xs_iconst (v := -1) d253_21 (by decide) ?_
      obtain ⟨eR, eH⟩ := K0 _ _ (Option.some.inj hf).symm
      subst eR; subst eH
      exact xs_iret d253_22 rt253
    · refine xs_if_ne (tgt := 23) d253_18 (by decide) (fun hp => absurd hp hc5) (fun _ => ?_)
      refine xs_aload_n d253_23 rfl ?_
      refine xs_aload_n d253_24 rfl ?_
      refine xe_getc (j := 0) d253_25 ky253 fl199 fk12_38 rfl ?_
      refine xs_iload_n d253_28 rfl ?_
      obtain ⟨hin6, hf⟩ := lk_g hf
      refine xe_iald d253_29 (by decide) ak67 hin6 ?_
      obtain ⟨h7, eh7, hf⟩ := lk_let hf
      refine xe_puti d253_30 ky253 fl182 fk12_21 ft12_21 eh7 ?_
      refine xs_aload_n d253_33 rfl ?_
      refine xs_aload_n d253_34 rfl ?_
      refine xe_getc (j := 0) d253_35 ky253 fl200 fk12_39 rfl ?_
      refine xs_iload_n d253_38 rfl ?_
      obtain ⟨hin8, hf⟩ := lk_g hf
      refine xe_iald d253_39 (by decide) ak68 hin8 ?_
      obtain ⟨h9, eh9, hf⟩ := lk_let hf
      refine xe_puti d253_40 ky253 fl183 fk12_22 ft12_22 eh9 ?_
      refine xs_aload_n d253_43 rfl ?_
      refine xs_iconst (v := 0) d253_44 (by decide) ?_
      obtain ⟨h10, eh10, hf⟩ := lk_let hf
      refine xe_puti d253_45 ky253 fl185 fk12_24 ft12_24 eh10 ?_
      refine xs_iconst (v := 0) d253_48 (by decide) ?_
      refine xe_istore_n (v := (0 : Int32)) (ls2 := [(0, xr 12 (some 0)), (1, xi v1), (2, xi (0 : Int32))]) d253_49 mx253 (by decide) rfl rfl ?_
      exact f_M_back_l50_ok hD hf K0
noncomputable def f_M_back (v1 : Int32) (h : xH) : Option (Int32 × xH) := f_M_back_e v1 h
theorem f_M_back_ok {g : xG} {l : Launch} {d : Nat} {v1 : Int32} {h : xH} {r : Int32} {h1 : xH} (hD : 1 ≤ d) (hf : f_M_back v1 h = some (r, h1)) : xC g l d 253 [xr 12 (some 0), xi v1] h (some (xi r)) h1 :=
  xC_of2 (by decide) mx253 (Nat.le_of_ble_eq_true rfl) (f_M_back_e_ok hD hf (fun _ _ e => by cases e; exact ⟨rfl, rfl⟩))
