theorem d254_0 : decode (xcode 254) 0 = .ok (.iload_n 0, 1) := by decide +kernel
theorem d254_1 : decode (xcode 254) 1 = .ok (.iconst (-1), 1) := by decide +kernel
theorem d254_2 : decode (xcode 254) 2 = .ok (.ixor, 1) := by decide +kernel
theorem d254_3 : decode (xcode 254) 3 = .ok (.iload_n 0, 1) := by decide +kernel
theorem d254_4 : decode (xcode 254) 4 = .ok (.iconst 1, 1) := by decide +kernel
theorem d254_5 : decode (xcode 254) 5 = .ok (.isub, 1) := by decide +kernel
theorem d254_6 : decode (xcode 254) 6 = .ok (.iand, 1) := by decide +kernel
theorem d254_7 : decode (xcode 254) 7 = .ok (.istore_n 0, 1) := by decide +kernel
theorem d254_8 : decode (xcode 254) 8 = .ok (.iload_n 0, 1) := by decide +kernel
theorem d254_9 : decode (xcode 254) 9 = .ok (.ifCond .gt 8, 3) := by decide +kernel
theorem d254_12 : decode (xcode 254) 12 = .ok (.iload_n 0, 1) := by decide +kernel
theorem d254_13 : decode (xcode 254) 13 = .ok (.bipush 32, 2) := by decide +kernel
theorem d254_15 : decode (xcode 254) 15 = .ok (.iand, 1) := by decide +kernel
theorem d254_16 : decode (xcode 254) 16 = .ok (.ireturn, 1) := by decide +kernel
theorem d254_17 : decode (xcode 254) 17 = .ok (.iconst 1, 1) := by decide +kernel
theorem d254_18 : decode (xcode 254) 18 = .ok (.istore_n 1, 1) := by decide +kernel
theorem d254_19 : decode (xcode 254) 19 = .ok (.iload_n 0, 1) := by decide +kernel
theorem d254_20 : decode (xcode 254) 20 = .ok (.ldc_w 264, 3) := by decide +kernel
theorem d254_23 : decode (xcode 254) 23 = .ok (.if_icmp .le 11, 3) := by decide +kernel
theorem d254_26 : decode (xcode 254) 26 = .ok (.iinc 1 16, 3) := by decide +kernel
theorem d254_29 : decode (xcode 254) 29 = .ok (.iload_n 0, 1) := by decide +kernel
theorem d254_30 : decode (xcode 254) 30 = .ok (.bipush 16, 2) := by decide +kernel
theorem d254_32 : decode (xcode 254) 32 = .ok (.iushr, 1) := by decide +kernel
theorem d254_33 : decode (xcode 254) 33 = .ok (.istore_n 0, 1) := by decide +kernel
theorem d254_34 : decode (xcode 254) 34 = .ok (.iload_n 0, 1) := by decide +kernel
theorem d254_35 : decode (xcode 254) 35 = .ok (.sipush 256, 3) := by decide +kernel
theorem d254_38 : decode (xcode 254) 38 = .ok (.if_icmp .le 11, 3) := by decide +kernel
theorem d254_41 : decode (xcode 254) 41 = .ok (.iinc 1 8, 3) := by decide +kernel
theorem d254_44 : decode (xcode 254) 44 = .ok (.iload_n 0, 1) := by decide +kernel
theorem d254_45 : decode (xcode 254) 45 = .ok (.bipush 8, 2) := by decide +kernel
theorem d254_47 : decode (xcode 254) 47 = .ok (.iushr, 1) := by decide +kernel
theorem d254_48 : decode (xcode 254) 48 = .ok (.istore_n 0, 1) := by decide +kernel
theorem d254_49 : decode (xcode 254) 49 = .ok (.iload_n 0, 1) := by decide +kernel
theorem d254_50 : decode (xcode 254) 50 = .ok (.bipush 16, 2) := by decide +kernel
theorem d254_52 : decode (xcode 254) 52 = .ok (.if_icmp .le 10, 3) := by decide +kernel
theorem d254_55 : decode (xcode 254) 55 = .ok (.iinc 1 4, 3) := by decide +kernel
theorem d254_58 : decode (xcode 254) 58 = .ok (.iload_n 0, 1) := by decide +kernel
theorem d254_59 : decode (xcode 254) 59 = .ok (.iconst 4, 1) := by decide +kernel
theorem d254_60 : decode (xcode 254) 60 = .ok (.iushr, 1) := by decide +kernel
theorem d254_61 : decode (xcode 254) 61 = .ok (.istore_n 0, 1) := by decide +kernel
theorem d254_62 : decode (xcode 254) 62 = .ok (.iload_n 0, 1) := by decide +kernel
theorem d254_63 : decode (xcode 254) 63 = .ok (.iconst 4, 1) := by decide +kernel
theorem d254_64 : decode (xcode 254) 64 = .ok (.if_icmp .le 10, 3) := by decide +kernel
theorem d254_67 : decode (xcode 254) 67 = .ok (.iinc 1 2, 3) := by decide +kernel
theorem d254_70 : decode (xcode 254) 70 = .ok (.iload_n 0, 1) := by decide +kernel
theorem d254_71 : decode (xcode 254) 71 = .ok (.iconst 2, 1) := by decide +kernel
theorem d254_72 : decode (xcode 254) 72 = .ok (.iushr, 1) := by decide +kernel
theorem d254_73 : decode (xcode 254) 73 = .ok (.istore_n 0, 1) := by decide +kernel
theorem d254_74 : decode (xcode 254) 74 = .ok (.iload_n 1, 1) := by decide +kernel
theorem d254_75 : decode (xcode 254) 75 = .ok (.iload_n 0, 1) := by decide +kernel
theorem d254_76 : decode (xcode 254) 76 = .ok (.iconst 1, 1) := by decide +kernel
theorem d254_77 : decode (xcode 254) 77 = .ok (.iushr, 1) := by decide +kernel
theorem d254_78 : decode (xcode 254) 78 = .ok (.iadd, 1) := by decide +kernel
theorem d254_79 : decode (xcode 254) 79 = .ok (.ireturn, 1) := by decide +kernel
noncomputable def f_Integer_numberOfTrailingZeros_b74 (v0 : Int32) (v1 : Int32) (h : xH) : Option Int32 :=
  some (v1 + (((v0).toUInt32 >>> (((1 : Int32)).toUInt32 &&& Int32.toUInt32 31)).toInt32))
set_option maxHeartbeats 4000000 in
set_option maxRecDepth 100000 in
theorem f_Integer_numberOfTrailingZeros_b74_ok {g : xG} {l : Launch} {d : Nat} {v0 : Int32} {v1 : Int32} {h : xH} {o : Int32} {R : Option xV} (hD : 0 ≤ d) (hf : f_Integer_numberOfTrailingZeros_b74 v0 v1 h = some o) (K0 : ∀ (a : Int32), o = a → R = some (xi a)) : xEv g l d 254 74 [(0, xi v0), (1, xi v1)] [] h R h := by
  unfold f_Integer_numberOfTrailingZeros_b74 at hf
  refine xs_iload_n d254_74 rfl ?_
  refine xs_iload_n d254_75 rfl ?_
  refine xs_iconst (v := 1) d254_76 (by decide) ?_
  refine xs_iushr d254_77 ?_
  refine xs_iadd d254_78 ?_
  obtain eR := K0 _ (Option.some.inj hf).symm
  subst eR
  exact xs_iret d254_79 rt254
noncomputable def f_Integer_numberOfTrailingZeros_b62 (v0 : Int32) (v1 : Int32) (h : xH) : Option Int32 :=
  if v0 ≤ (4 : Int32) then (
  f_Integer_numberOfTrailingZeros_b74 v0 v1 h) else (
  xlet (v1 + (2 : Int32)) fun v1_7 =>
  xlet (((v0).toUInt32 >>> (((2 : Int32)).toUInt32 &&& Int32.toUInt32 31)).toInt32) fun v0_8 =>
  f_Integer_numberOfTrailingZeros_b74 v0_8 v1_7 h)
set_option maxHeartbeats 4000000 in
set_option maxRecDepth 100000 in
theorem f_Integer_numberOfTrailingZeros_b62_ok {g : xG} {l : Launch} {d : Nat} {v0 : Int32} {v1 : Int32} {h : xH} {o : Int32} {R : Option xV} (hD : 0 ≤ d) (hf : f_Integer_numberOfTrailingZeros_b62 v0 v1 h = some o) (K0 : ∀ (a : Int32), o = a → R = some (xi a)) : xEv g l d 254 62 [(0, xi v0), (1, xi v1)] [] h R h := by
  unfold f_Integer_numberOfTrailingZeros_b62 at hf
  refine xs_iload_n d254_62 rfl ?_
  refine xs_iconst (v := 4) d254_63 (by decide) ?_
  rcases lk_if hf with ⟨hc6, hf⟩ | ⟨hc6, hf⟩
  · refine xs_icmp_le (tgt := 74) d254_64 (by decide) (fun _ => ?_) (fun hn => absurd hc6 hn)
    exact f_Integer_numberOfTrailingZeros_b74_ok hD hf K0
  · refine xs_icmp_le (tgt := 74) d254_64 (by decide) (fun hp => absurd hp hc6) (fun _ => ?_)
    obtain ⟨v1_7, ev1_7, hf⟩ := lk_let hf
    refine xe_iinc (v := v1_7) (b := 2) (ls2 := [(0, xi v0), (1, xi v1_7)]) d254_67 mx254 (by decide) rfl (by decide) ev1_7 rfl ?_
    refine xs_iload_n d254_70 rfl ?_
    refine xs_iconst (v := 2) d254_71 (by decide) ?_
    refine xs_iushr d254_72 ?_
    obtain ⟨v0_8, ev0_8, hf⟩ := lk_let hf
    refine xe_istore_n (v := v0_8) (ls2 := [(0, xi v0_8), (1, xi v1_7)]) d254_73 mx254 (by decide) ev0_8 rfl ?_
    exact f_Integer_numberOfTrailingZeros_b74_ok hD hf K0
noncomputable def f_Integer_numberOfTrailingZeros_b49 (v0 : Int32) (v1 : Int32) (h : xH) : Option Int32 :=
  if v0 ≤ (16 : Int32) then (
  f_Integer_numberOfTrailingZeros_b62 v0 v1 h) else (
  xlet (v1 + (4 : Int32)) fun v1_9 =>
  xlet (((v0).toUInt32 >>> (((4 : Int32)).toUInt32 &&& Int32.toUInt32 31)).toInt32) fun v0_10 =>
  f_Integer_numberOfTrailingZeros_b62 v0_10 v1_9 h)
set_option maxHeartbeats 4000000 in
set_option maxRecDepth 100000 in
theorem f_Integer_numberOfTrailingZeros_b49_ok {g : xG} {l : Launch} {d : Nat} {v0 : Int32} {v1 : Int32} {h : xH} {o : Int32} {R : Option xV} (hD : 0 ≤ d) (hf : f_Integer_numberOfTrailingZeros_b49 v0 v1 h = some o) (K0 : ∀ (a : Int32), o = a → R = some (xi a)) : xEv g l d 254 49 [(0, xi v0), (1, xi v1)] [] h R h := by
  unfold f_Integer_numberOfTrailingZeros_b49 at hf
  refine xs_iload_n d254_49 rfl ?_
  refine xs_bipush (v := 16) d254_50 (by decide) ?_
  rcases lk_if hf with ⟨hc5, hf⟩ | ⟨hc5, hf⟩
  · refine xs_icmp_le (tgt := 62) d254_52 (by decide) (fun _ => ?_) (fun hn => absurd hc5 hn)
    exact f_Integer_numberOfTrailingZeros_b62_ok hD hf K0
  · refine xs_icmp_le (tgt := 62) d254_52 (by decide) (fun hp => absurd hp hc5) (fun _ => ?_)
    obtain ⟨v1_9, ev1_9, hf⟩ := lk_let hf
    refine xe_iinc (v := v1_9) (b := 4) (ls2 := [(0, xi v0), (1, xi v1_9)]) d254_55 mx254 (by decide) rfl (by decide) ev1_9 rfl ?_
    refine xs_iload_n d254_58 rfl ?_
    refine xs_iconst (v := 4) d254_59 (by decide) ?_
    refine xs_iushr d254_60 ?_
    obtain ⟨v0_10, ev0_10, hf⟩ := lk_let hf
    refine xe_istore_n (v := v0_10) (ls2 := [(0, xi v0_10), (1, xi v1_9)]) d254_61 mx254 (by decide) ev0_10 rfl ?_
    exact f_Integer_numberOfTrailingZeros_b62_ok hD hf K0
noncomputable def f_Integer_numberOfTrailingZeros_b34 (v0 : Int32) (v1 : Int32) (h : xH) : Option Int32 :=
  if v0 ≤ (256 : Int32) then (
  f_Integer_numberOfTrailingZeros_b49 v0 v1 h) else (
  xlet (v1 + (8 : Int32)) fun v1_11 =>
  xlet (((v0).toUInt32 >>> (((8 : Int32)).toUInt32 &&& Int32.toUInt32 31)).toInt32) fun v0_12 =>
  f_Integer_numberOfTrailingZeros_b49 v0_12 v1_11 h)
set_option maxHeartbeats 4000000 in
set_option maxRecDepth 100000 in
theorem f_Integer_numberOfTrailingZeros_b34_ok {g : xG} {l : Launch} {d : Nat} {v0 : Int32} {v1 : Int32} {h : xH} {o : Int32} {R : Option xV} (hD : 0 ≤ d) (hf : f_Integer_numberOfTrailingZeros_b34 v0 v1 h = some o) (K0 : ∀ (a : Int32), o = a → R = some (xi a)) : xEv g l d 254 34 [(0, xi v0), (1, xi v1)] [] h R h := by
  unfold f_Integer_numberOfTrailingZeros_b34 at hf
  refine xs_iload_n d254_34 rfl ?_
  refine xs_sipush (v := 256) d254_35 (by decide) ?_
  rcases lk_if hf with ⟨hc4, hf⟩ | ⟨hc4, hf⟩
  · refine xs_icmp_le (tgt := 49) d254_38 (by decide) (fun _ => ?_) (fun hn => absurd hc4 hn)
    exact f_Integer_numberOfTrailingZeros_b49_ok hD hf K0
  · refine xs_icmp_le (tgt := 49) d254_38 (by decide) (fun hp => absurd hp hc4) (fun _ => ?_)
    obtain ⟨v1_11, ev1_11, hf⟩ := lk_let hf
    refine xe_iinc (v := v1_11) (b := 8) (ls2 := [(0, xi v0), (1, xi v1_11)]) d254_41 mx254 (by decide) rfl (by decide) ev1_11 rfl ?_
    refine xs_iload_n d254_44 rfl ?_
    refine xs_bipush (v := 8) d254_45 (by decide) ?_
    refine xs_iushr d254_47 ?_
    obtain ⟨v0_12, ev0_12, hf⟩ := lk_let hf
    refine xe_istore_n (v := v0_12) (ls2 := [(0, xi v0_12), (1, xi v1_11)]) d254_48 mx254 (by decide) ev0_12 rfl ?_
    exact f_Integer_numberOfTrailingZeros_b49_ok hD hf K0
noncomputable def f_Integer_numberOfTrailingZeros_e (v0 : Int32) (h : xH) : Option Int32 :=
  xlet ((v0 ^^^ (-1 : Int32)) &&& (v0 - (1 : Int32))) fun v0_1 =>
  if (0 : Int32) < v0_1 then (
  if v0_1 ≤ (65536 : Int32) then (
  f_Integer_numberOfTrailingZeros_b34 v0_1 (1 : Int32) h) else (
  xlet ((1 : Int32) + (16 : Int32)) fun v1_13 =>
  xlet (((v0_1).toUInt32 >>> (((16 : Int32)).toUInt32 &&& Int32.toUInt32 31)).toInt32) fun v0_14 =>
  f_Integer_numberOfTrailingZeros_b34 v0_14 v1_13 h)) else (
  some (v0_1 &&& (32 : Int32)))
set_option maxHeartbeats 4000000 in
set_option maxRecDepth 100000 in
theorem f_Integer_numberOfTrailingZeros_e_ok {g : xG} {l : Launch} {d : Nat} {v0 : Int32} {h : xH} {o : Int32} {R : Option xV} (hD : 0 ≤ d) (hf : f_Integer_numberOfTrailingZeros_e v0 h = some o) (K0 : ∀ (a : Int32), o = a → R = some (xi a)) : xEv g l d 254 0 [(0, xi v0)] [] h R h := by
  unfold f_Integer_numberOfTrailingZeros_e at hf
  refine xs_iload_n d254_0 rfl ?_
  refine xs_iconst (v := -1) d254_1 (by decide) ?_
  refine xs_ixor d254_2 ?_
  refine xs_iload_n d254_3 rfl ?_
  refine xs_iconst (v := 1) d254_4 (by decide) ?_
  refine xs_isub d254_5 ?_
  refine xs_iand d254_6 ?_
  obtain ⟨v0_1, ev0_1, hf⟩ := lk_let hf
  refine xe_istore_n (v := v0_1) (ls2 := [(0, xi v0_1)]) d254_7 mx254 (by decide) ev0_1 rfl ?_
  refine xs_iload_n d254_8 rfl ?_
  rcases lk_if hf with ⟨hc2, hf⟩ | ⟨hc2, hf⟩
  · refine xs_if_gt (tgt := 17) d254_9 (by decide) (fun _ => ?_) (fun hn => absurd hc2 hn)
    refine xs_iconst (v := 1) d254_17 (by decide) ?_
    refine xe_istore_n (v := (1 : Int32)) (ls2 := [(0, xi v0_1), (1, xi (1 : Int32))]) d254_18 mx254 (by decide) rfl rfl ?_
    refine xs_iload_n d254_19 rfl ?_
    refine xs_ldcw (v := 65536) d254_20 cs13_264 ?_
    rcases lk_if hf with ⟨hc3, hf⟩ | ⟨hc3, hf⟩
    · refine xs_icmp_le (tgt := 34) d254_23 (by decide) (fun _ => ?_) (fun hn => absurd hc3 hn)
      exact f_Integer_numberOfTrailingZeros_b34_ok hD hf K0
    · refine xs_icmp_le (tgt := 34) d254_23 (by decide) (fun hp => absurd hp hc3) (fun _ => ?_)
      obtain ⟨v1_13, ev1_13, hf⟩ := lk_let hf
      refine xe_iinc (v := v1_13) (b := 16) (ls2 := [(0, xi v0_1), (1, xi v1_13)]) d254_26 mx254 (by decide) rfl (by decide) ev1_13 rfl ?_
      refine xs_iload_n d254_29 rfl ?_
      refine xs_bipush (v := 16) d254_30 (by decide) ?_
      refine xs_iushr d254_32 ?_
      obtain ⟨v0_14, ev0_14, hf⟩ := lk_let hf
      refine xe_istore_n (v := v0_14) (ls2 := [(0, xi v0_14), (1, xi v1_13)]) d254_33 mx254 (by decide) ev0_14 rfl ?_
      exact f_Integer_numberOfTrailingZeros_b34_ok hD hf K0
  · refine xs_if_gt (tgt := 17) d254_9 (by decide) (fun hp => absurd hp hc2) (fun _ => ?_)
    refine xs_iload_n d254_12 rfl ?_
    refine xs_bipush (v := 32) d254_13 (by decide) ?_
    refine xs_iand d254_15 ?_
    obtain eR := K0 _ (Option.some.inj hf).symm
    subst eR
    exact xs_iret d254_16 rt254
noncomputable def f_Integer_numberOfTrailingZeros (v0 : Int32) (h : xH) : Option Int32 := f_Integer_numberOfTrailingZeros_e v0 h
theorem f_Integer_numberOfTrailingZeros_ok {g : xG} {l : Launch} {d : Nat} {v0 : Int32} {h : xH} {r : Int32} (hD : 0 ≤ d) (hf : f_Integer_numberOfTrailingZeros v0 h = some r) : xC g l d 254 [xi v0] h (some (xi r)) h :=
  xC_of2 (by decide) mx254 (Nat.le_of_ble_eq_true rfl) (f_Integer_numberOfTrailingZeros_e_ok hD hf (fun _ e => by rw [e]))
theorem d29_0 : decode (xcode 29) 0 = .ok (.aload_n 1, 1) := by decide +kernel
theorem d29_1 : decode (xcode 29) 1 = .ok (.iconst 0, 1) := by decide +kernel
theorem d29_2 : decode (xcode 29) 2 = .ok (.iconst 0, 1) := by decide +kernel
theorem d29_3 : decode (xcode 29) 3 = .ok (.iastore, 1) := by decide +kernel
theorem d29_4 : decode (xcode 29) 4 = .ok (.iconst 1, 1) := by decide +kernel
theorem d29_5 : decode (xcode 29) 5 = .ok (.istore_n 2, 1) := by decide +kernel
theorem d29_6 : decode (xcode 29) 6 = .ok (.iload_n 2, 1) := by decide +kernel
theorem d29_7 : decode (xcode 29) 7 = .ok (.sipush 256, 3) := by decide +kernel
theorem d29_10 : decode (xcode 29) 10 = .ok (.if_icmp .ge 28, 3) := by decide +kernel
theorem d29_13 : decode (xcode 29) 13 = .ok (.iload_n 2, 1) := by decide +kernel
theorem d29_14 : decode (xcode 29) 14 = .ok (.invokestatic 34, 3) := by decide +kernel
theorem d29_17 : decode (xcode 29) 17 = .ok (.istore_n 3, 1) := by decide +kernel
theorem d29_18 : decode (xcode 29) 18 = .ok (.aload_n 1, 1) := by decide +kernel
theorem d29_19 : decode (xcode 29) 19 = .ok (.iload_n 2, 1) := by decide +kernel
theorem d29_20 : decode (xcode 29) 20 = .ok (.aload_n 1, 1) := by decide +kernel
theorem d29_21 : decode (xcode 29) 21 = .ok (.iload_n 2, 1) := by decide +kernel
theorem d29_22 : decode (xcode 29) 22 = .ok (.iload_n 2, 1) := by decide +kernel
theorem d29_23 : decode (xcode 29) 23 = .ok (.iconst 1, 1) := by decide +kernel
theorem d29_24 : decode (xcode 29) 24 = .ok (.isub, 1) := by decide +kernel
theorem d29_25 : decode (xcode 29) 25 = .ok (.iand, 1) := by decide +kernel
theorem d29_26 : decode (xcode 29) 26 = .ok (.iaload, 1) := by decide +kernel
theorem d29_27 : decode (xcode 29) 27 = .ok (.aload_n 0, 1) := by decide +kernel
theorem d29_28 : decode (xcode 29) 28 = .ok (.iload_n 3, 1) := by decide +kernel
theorem d29_29 : decode (xcode 29) 29 = .ok (.iaload, 1) := by decide +kernel
theorem d29_30 : decode (xcode 29) 30 = .ok (.iadd, 1) := by decide +kernel
theorem d29_31 : decode (xcode 29) 31 = .ok (.iastore, 1) := by decide +kernel
theorem d29_32 : decode (xcode 29) 32 = .ok (.iinc 2 1, 3) := by decide +kernel
theorem d29_35 : decode (xcode 29) 35 = .ok (.goto (-29), 3) := by decide +kernel
theorem d29_38 : decode (xcode 29) 38 = .ok (.return_, 1) := by decide +kernel
noncomputable def f_Sets_addUp_31_15_s6 (i0 : Nat) (v2 : Int32) (h : xH) : Option ((Int32 × xH) ⊕ xH) :=
  if (256 : Int32) ≤ v2 then (
  some (Sum.inr (h))) else (
  (f_Integer_numberOfTrailingZeros v2 h).bind fun r3 =>
  if xib (v2 &&& (v2 - (1 : Int32))) 256 then (
  if xib r3 8 then (
  if xib v2 256 then (
  xlet (xsA h 15 0 (upd (h.2.2.2.1 15 0) (v2).toNatClampNeg ((h.2.2.2.1 15 0 (v2 &&& (v2 - (1 : Int32))).toNatClampNeg) + (h.2.2.2.1 31 i0 (r3).toNatClampNeg)))) fun h8 =>
  xlet (v2 + (1 : Int32)) fun v2_9 =>
  some (Sum.inl (v2_9, h8))) else none) else none) else none)
set_option maxHeartbeats 4000000 in
set_option maxRecDepth 100000 in
theorem f_Sets_addUp_31_15_s6_ok {g : xG} {l : Launch} {d : Nat} {i0 : Nat} {v2 : Int32} {h : xH} {o : ((Int32 × xH) ⊕ xH)} {R : Option xV} {H' : xH} (hD : 1 ≤ d) (hf : f_Sets_addUp_31_15_s6 i0 v2 h = some o) (K1 : ∀ (w2 : Int32) (h1 : xH), o = Sum.inl (w2, h1) → xEv g l d 29 6 [(0, xr 31 (some i0)), (1, xr 15 (some 0)), (2, xi w2)] [] h1 R H') (K0 : ∀ (h1 : xH), o = Sum.inr (h1) → R = none ∧ H' = h1) : xEv g l d 29 6 [(0, xr 31 (some i0)), (1, xr 15 (some 0)), (2, xi v2)] [] h R H' := by
  unfold f_Sets_addUp_31_15_s6 at hf
  refine xs_iload_n d29_6 rfl ?_
  refine xs_sipush (v := 256) d29_7 (by decide) ?_
  rcases lk_if hf with ⟨hc2, hf⟩ | ⟨hc2, hf⟩
  · refine xs_icmp_ge (tgt := 38) d29_10 (by decide) (fun _ => ?_) (fun hn => absurd hc2 hn)
    obtain ⟨eR, eH⟩ := K0 _ (Option.some.inj hf).symm
    subst eR; subst eH
    exact xs_vret d29_38 rt29
  · refine xs_icmp_ge (tgt := 38) d29_10 (by decide) (fun hp => absurd hp hc2) (fun _ => ?_)
    refine xs_iload_n d29_13 rfl ?_
    obtain ⟨r3, hc4, hf⟩ := lk_b hf
    refine xe_calls1 (as := [xi v2]) (st := []) (h2 := h) (d2 := d - 1) d29_14 ky29 ml116 st254 rfl na254 (Nat.le_of_ble_eq_true rfl) (by omega) (f_Integer_numberOfTrailingZeros_ok (by omega) hc4) ?_
    refine xe_istore_n (v := r3) (ls2 := [(0, xr 31 (some i0)), (1, xr 15 (some 0)), (2, xi v2), (3, xi r3)]) d29_17 mx29 (by decide) rfl rfl ?_
    refine xs_aload_n d29_18 rfl ?_
    refine xs_iload_n d29_19 rfl ?_
    refine xs_aload_n d29_20 rfl ?_
    refine xs_iload_n d29_21 rfl ?_
    refine xs_iload_n d29_22 rfl ?_
    refine xs_iconst (v := 1) d29_23 (by decide) ?_
    refine xs_isub d29_24 ?_
    refine xs_iand d29_25 ?_
    obtain ⟨hin5, hf⟩ := lk_g hf
    refine xe_iald d29_26 (by decide) ak15 hin5 ?_
    refine xs_aload_n d29_27 rfl ?_
    refine xs_iload_n d29_28 rfl ?_
    obtain ⟨hin6, hf⟩ := lk_g hf
    refine xe_iald d29_29 (by decide) ak31 hin6 ?_
    refine xs_iadd d29_30 ?_
    obtain ⟨hin7, hf⟩ := lk_g hf
    obtain ⟨h8, eh8, hf⟩ := lk_let hf
    refine xe_iast d29_31 (by decide) ak15 hin7  eh8 ?_
    obtain ⟨v2_9, ev2_9, hf⟩ := lk_let hf
    refine xe_iinc (v := v2_9) (b := 1) (ls2 := [(0, xr 31 (some i0)), (1, xr 15 (some 0)), (2, xi v2_9), (3, xi r3)]) d29_32 mx29 (by decide) rfl (by decide) ev2_9 rfl ?_
    refine xs_goto (tgt := 6) d29_35 (by decide) ?_
    refine xs_pick [0, 1, 2] rfl ?_
    exact K1 _ _ (Option.some.inj hf).symm
noncomputable def f_Sets_addUp_31_15_l6 (i0 : Nat) (v2 : Int32) (h : xH) : Option xH :=
  whl (fun s => f_Sets_addUp_31_15_s6 i0 s.1 s.2) (v2, h)
theorem f_Sets_addUp_31_15_l6_ok {g : xG} {l : Launch} {d : Nat} {i0 : Nat} {v2 : Int32} {h : xH} {o : xH} {R : Option xV} {H' : xH} (hD : 1 ≤ d) (hf : f_Sets_addUp_31_15_l6 i0 v2 h = some o) (K0 : ∀ (h1 : xH), o = h1 → R = none ∧ H' = h1) : xEv g l d 29 6 [(0, xr 31 (some i0)), (1, xr 15 (some 0)), (2, xi v2)] [] h R H' := by
  obtain ⟨n, hn⟩ := whl_iff.mp hf
  clear hf
  induction n generalizing v2 h with
  | zero => cases hn
  | succ n ih =>
    obtain ⟨o2, hs, hn⟩ := lk_b (show (f_Sets_addUp_31_15_s6 i0 v2 h).bind (fun o => Sum.elim (itn _ n) some o) = some o from hn)
    exact f_Sets_addUp_31_15_s6_ok hD hs (fun u0 u1 e => ih (by rw [e] at hn; exact hn)) (fun u0 e => K0 u0 (by rw [e] at hn; exact (Option.some.inj hn).symm))
noncomputable def f_Sets_addUp_31_15_e (i0 : Nat) (h : xH) : Option xH :=
  xlet (xsA h 15 0 (upd (h.2.2.2.1 15 0) ((0 : Int32)).toNatClampNeg (0 : Int32))) fun h1 =>
  f_Sets_addUp_31_15_l6 i0 (1 : Int32) h1
set_option maxHeartbeats 4000000 in
set_option maxRecDepth 100000 in
theorem f_Sets_addUp_31_15_e_ok {g : xG} {l : Launch} {d : Nat} {i0 : Nat} {h : xH} {o : xH} {R : Option xV} {H' : xH} (hD : 1 ≤ d) (hf : f_Sets_addUp_31_15_e i0 h = some o) (K0 : ∀ (h1 : xH), o = h1 → R = none ∧ H' = h1) : xEv g l d 29 0 [(0, xr 31 (some i0)), (1, xr 15 (some 0))] [] h R H' := by
  unfold f_Sets_addUp_31_15_e at hf
  refine xs_aload_n d29_0 rfl ?_
  refine xs_iconst (v := 0) d29_1 (by decide) ?_
  refine xs_iconst (v := 0) d29_2 (by decide) ?_
  obtain ⟨h1, eh1, hf⟩ := lk_let hf
  refine xe_iast d29_3 (by decide) ak15 (show xib (0 : Int32) 256 by decide)  eh1 ?_
  refine xs_iconst (v := 1) d29_4 (by decide) ?_
  refine xe_istore_n (v := (1 : Int32)) (ls2 := [(0, xr 31 (some i0)), (1, xr 15 (some 0)), (2, xi (1 : Int32))]) d29_5 mx29 (by decide) rfl rfl ?_
  exact f_Sets_addUp_31_15_l6_ok hD hf K0
noncomputable def f_Sets_addUp_31_15 (i0 : Nat) (h : xH) : Option xH := f_Sets_addUp_31_15_e i0 h
theorem f_Sets_addUp_31_15_ok {g : xG} {l : Launch} {d : Nat} {i0 : Nat} {h : xH} {h1 : xH} (hD : 1 ≤ d) (hf : f_Sets_addUp_31_15 i0 h = some h1) : xC g l d 29 [xr 31 (some i0), xr 15 (some 0)] h none h1 :=
  xC_of2 (by decide) mx29 (Nat.le_of_ble_eq_true rfl) (f_Sets_addUp_31_15_e_ok hD hf (fun _ e => ⟨rfl, e⟩))
theorem d256_0 : decode (xcode 256) 0 = .ok (.iload_n 0, 1) := by decide +kernel
theorem d256_1 : decode (xcode 256) 1 = .ok (.iload_n 1, 1) := by decide +kernel
theorem d256_2 : decode (xcode 256) 2 = .ok (.if_icmp .lt 7, 3) := by decide +kernel
theorem d256_5 : decode (xcode 256) 5 = .ok (.iload_n 0, 1) := by decide +kernel
theorem d256_6 : decode (xcode 256) 6 = .ok (.goto 4, 3) := by decide +kernel
theorem d256_9 : decode (xcode 256) 9 = .ok (.iload_n 1, 1) := by decide +kernel
theorem d256_10 : decode (xcode 256) 10 = .ok (.ireturn, 1) := by decide +kernel
noncomputable def f_Math_max_e (v0 : Int32) (v1 : Int32) (h : xH) : Option Int32 :=
  if v0 < v1 then (
  some (v1)) else (
  some (v0))
set_option maxHeartbeats 4000000 in
set_option maxRecDepth 100000 in
theorem f_Math_max_e_ok {g : xG} {l : Launch} {d : Nat} {v0 : Int32} {v1 : Int32} {h : xH} {o : Int32} {R : Option xV} (hD : 0 ≤ d) (hf : f_Math_max_e v0 v1 h = some o) (K0 : ∀ (a : Int32), o = a → R = some (xi a)) : xEv g l d 256 0 [(0, xi v0), (1, xi v1)] [] h R h := by
  unfold f_Math_max_e at hf
  refine xs_iload_n d256_0 rfl ?_
  refine xs_iload_n d256_1 rfl ?_
  rcases lk_if hf with ⟨hc1, hf⟩ | ⟨hc1, hf⟩
  · refine xs_icmp_lt (tgt := 9) d256_2 (by decide) (fun _ => ?_) (fun hn => absurd hc1 hn)
    refine xs_iload_n d256_9 rfl ?_
    obtain eR := K0 _ (Option.some.inj hf).symm
    subst eR
    exact xs_iret d256_10 rt256
  · refine xs_icmp_lt (tgt := 9) d256_2 (by decide) (fun hp => absurd hp hc1) (fun _ => ?_)
    refine xs_iload_n d256_5 rfl ?_
    refine xs_goto (tgt := 10) d256_6 (by decide) ?_
    obtain eR := K0 _ (Option.some.inj hf).symm
    subst eR
    exact xs_iret d256_10 rt256
noncomputable def f_Math_max (v0 : Int32) (v1 : Int32) (h : xH) : Option Int32 := f_Math_max_e v0 v1 h
theorem f_Math_max_ok {g : xG} {l : Launch} {d : Nat} {v0 : Int32} {v1 : Int32} {h : xH} {r : Int32} (hD : 0 ≤ d) (hf : f_Math_max v0 v1 h = some r) : xC g l d 256 [xi v0, xi v1] h (some (xi r)) h :=
  xC_of2 (by decide) mx256 (Nat.le_of_ble_eq_true rfl) (f_Math_max_e_ok hD hf (fun _ e => by rw [e]))
theorem d3_0 : decode (xcode 3) 0 = .ok (.iload_n 1, 1) := by decide +kernel
theorem d3_1 : decode (xcode 3) 1 = .ok (.istore_n 3, 1) := by decide +kernel
theorem d3_2 : decode (xcode 3) 2 = .ok (.iload_n 3, 1) := by decide +kernel
theorem d3_3 : decode (xcode 3) 3 = .ok (.ifCond .le 37, 3) := by decide +kernel
theorem d3_6 : decode (xcode 3) 6 = .ok (.aload_n 0, 1) := by decide +kernel
theorem d3_7 : decode (xcode 3) 7 = .ok (.getfield 18, 3) := by decide +kernel
theorem d3_10 : decode (xcode 3) 10 = .ok (.iload_n 3, 1) := by decide +kernel
theorem d3_11 : decode (xcode 3) 11 = .ok (.iaload, 1) := by decide +kernel
theorem d3_12 : decode (xcode 3) 12 = .ok (.iload_n 2, 1) := by decide +kernel
theorem d3_13 : decode (xcode 3) 13 = .ok (.if_icmp .gt 18, 3) := by decide +kernel
theorem d3_16 : decode (xcode 3) 16 = .ok (.aload_n 0, 1) := by decide +kernel
theorem d3_17 : decode (xcode 3) 17 = .ok (.getfield 21, 3) := by decide +kernel
theorem d3_20 : decode (xcode 3) 20 = .ok (.iload_n 1, 1) := by decide +kernel
theorem d3_21 : decode (xcode 3) 21 = .ok (.iload_n 3, 1) := by decide +kernel
theorem d3_22 : decode (xcode 3) 22 = .ok (.iconst (-1), 1) := by decide +kernel
theorem d3_23 : decode (xcode 3) 23 = .ok (.ixor, 1) := by decide +kernel
theorem d3_24 : decode (xcode 3) 24 = .ok (.iand, 1) := by decide +kernel
theorem d3_25 : decode (xcode 3) 25 = .ok (.baload, 1) := by decide +kernel
theorem d3_26 : decode (xcode 3) 26 = .ok (.ifCond .eq 5, 3) := by decide +kernel
theorem d3_29 : decode (xcode 3) 29 = .ok (.iconst 1, 1) := by decide +kernel
theorem d3_30 : decode (xcode 3) 30 = .ok (.ireturn, 1) := by decide +kernel
theorem d3_31 : decode (xcode 3) 31 = .ok (.iload_n 3, 1) := by decide +kernel
theorem d3_32 : decode (xcode 3) 32 = .ok (.iconst 1, 1) := by decide +kernel
theorem d3_33 : decode (xcode 3) 33 = .ok (.isub, 1) := by decide +kernel
theorem d3_34 : decode (xcode 3) 34 = .ok (.iload_n 1, 1) := by decide +kernel
theorem d3_35 : decode (xcode 3) 35 = .ok (.iand, 1) := by decide +kernel
theorem d3_36 : decode (xcode 3) 36 = .ok (.istore_n 3, 1) := by decide +kernel
theorem d3_37 : decode (xcode 3) 37 = .ok (.goto (-35), 3) := by decide +kernel
theorem d3_40 : decode (xcode 3) 40 = .ok (.iconst 0, 1) := by decide +kernel
theorem d3_41 : decode (xcode 3) 41 = .ok (.ireturn, 1) := by decide +kernel
noncomputable def f_Bearing_canAddTo_b31 (v1 : Int32) (v2 : Int32) (v3 : Int32) (h : xH) : Option ((Int32) ⊕ Int32) :=
  xlet ((v3 - (1 : Int32)) &&& v1) fun v3_4 =>
  some (Sum.inl v3_4)
set_option maxHeartbeats 4000000 in
set_option maxRecDepth 100000 in
theorem f_Bearing_canAddTo_b31_ok {g : xG} {l : Launch} {d : Nat} {v1 : Int32} {v2 : Int32} {v3 : Int32} {h : xH} {o : ((Int32) ⊕ Int32)} {R : Option xV} (hD : 0 ≤ d) (hf : f_Bearing_canAddTo_b31 v1 v2 v3 h = some o) (K1 : ∀ (w3 : Int32), o = Sum.inl w3 → xEv g l d 3 2 [(0, xr 0 (some 0)), (1, xi v1), (2, xi v2), (3, xi w3)] [] h R h) (K0 : ∀ (a : Int32), o = Sum.inr (a) → R = some (xi a)) : xEv g l d 3 31 [(0, xr 0 (some 0)), (1, xi v1), (2, xi v2), (3, xi v3)] [] h R h := by
  unfold f_Bearing_canAddTo_b31 at hf
  refine xs_iload_n d3_31 rfl ?_
  refine xs_iconst (v := 1) d3_32 (by decide) ?_
  refine xs_isub d3_33 ?_
  refine xs_iload_n d3_34 rfl ?_
  refine xs_iand d3_35 ?_
  obtain ⟨v3_4, ev3_4, hf⟩ := lk_let hf
  refine xe_istore_n (v := v3_4) (ls2 := [(0, xr 0 (some 0)), (1, xi v1), (2, xi v2), (3, xi v3_4)]) d3_36 mx3 (by decide) ev3_4 rfl ?_
  refine xs_goto (tgt := 2) d3_37 (by decide) ?_
  exact K1 _ (Option.some.inj hf).symm
noncomputable def f_Bearing_canAddTo_s2 (v1 : Int32) (v2 : Int32) (v3 : Int32) (h : xH) : Option ((Int32) ⊕ Int32) :=
  if v3 ≤ (0 : Int32) then (
  some (Sum.inr ((0 : Int32)))) else (
  if xib v3 256 then (
  if v2 < (h.2.2.2.1 15 0 (v3).toNatClampNeg) then (
  f_Bearing_canAddTo_b31 v1 v2 v3 h) else (
  if xib (v1 &&& (v3 ^^^ (-1 : Int32))) 256 then (
  if (h.2.2.2.1 16 0 (v1 &&& (v3 ^^^ (-1 : Int32))).toNatClampNeg) = (0 : Int32) then (
  f_Bearing_canAddTo_b31 v1 v2 v3 h) else (
  some (Sum.inr ((1 : Int32))))) else none)) else none)
set_option maxHeartbeats 4000000 in
set_option maxRecDepth 100000 in
theorem f_Bearing_canAddTo_s2_ok {g : xG} {l : Launch} {d : Nat} {v1 : Int32} {v2 : Int32} {v3 : Int32} {h : xH} {o : ((Int32) ⊕ Int32)} {R : Option xV} (hD : 0 ≤ d) (hf : f_Bearing_canAddTo_s2 v1 v2 v3 h = some o) (K1 : ∀ (w3 : Int32), o = Sum.inl w3 → xEv g l d 3 2 [(0, xr 0 (some 0)), (1, xi v1), (2, xi v2), (3, xi w3)] [] h R h) (K0 : ∀ (a : Int32), o = Sum.inr (a) → R = some (xi a)) : xEv g l d 3 2 [(0, xr 0 (some 0)), (1, xi v1), (2, xi v2), (3, xi v3)] [] h R h := by
  unfold f_Bearing_canAddTo_s2 at hf
  refine xs_iload_n d3_2 rfl ?_
  rcases lk_if hf with ⟨hc1, hf⟩ | ⟨hc1, hf⟩
  · refine xs_if_le (tgt := 40) d3_3 (by decide) (fun _ => ?_) (fun hn => absurd hc1 hn)
    refine xs_iconst (v := 0) d3_40 (by decide) ?_
    obtain eR := K0 _ (Option.some.inj hf).symm
    subst eR
    exact xe_zret d3_41 (Or.inl rfl) rt3
  · refine xs_if_le (tgt := 40) d3_3 (by decide) (fun hp => absurd hp hc1) (fun _ => ?_)
    refine xs_aload_n d3_6 rfl ?_
    refine xe_getc (j := 0) d3_7 ky3 fl145 fk0_3 rfl ?_
    refine xs_iload_n d3_10 rfl ?_
    obtain ⟨hin2, hf⟩ := lk_g hf
    refine xe_iald d3_11 (by decide) ak15 hin2 ?_
    refine xs_iload_n d3_12 rfl ?_
    rcases lk_if hf with ⟨hc3, hf⟩ | ⟨hc3, hf⟩
    · refine xs_icmp_gt (tgt := 31) d3_13 (by decide) (fun _ => ?_) (fun hn => absurd hc3 hn)
      exact f_Bearing_canAddTo_b31_ok hD hf K1 K0
    · refine xs_icmp_gt (tgt := 31) d3_13 (by decide) (fun hp => absurd hp hc3) (fun _ => ?_)
      refine xs_aload_n d3_16 rfl ?_
      refine xe_getc (j := 0) d3_17 ky3 fl146 fk0_4 rfl ?_
      refine xs_iload_n d3_20 rfl ?_
      refine xs_iload_n d3_21 rfl ?_
      refine xs_iconst (v := -1) d3_22 (by decide) ?_
      refine xs_ixor d3_23 ?_
      refine xs_iand d3_24 ?_
      obtain ⟨hin5, hf⟩ := lk_g hf
      refine xe_zald d3_25 (by decide) ak16 hin5 ?_
      rcases lk_if hf with ⟨hc6, hf⟩ | ⟨hc6, hf⟩
      · refine xs_if_eq (tgt := 31) d3_26 (by decide) (fun _ => ?_) (fun hn => absurd hc6 hn)
        exact f_Bearing_canAddTo_b31_ok hD hf K1 K0
      · refine xs_if_eq (tgt := 31) d3_26 (by decide) (fun hp => absurd hp hc6) (fun _ => ?_)
        refine xs_iconst (v := 1) d3_29 (by decide) ?_
        obtain eR := K0 _ (Option.some.inj hf).symm
        subst eR
        exact xe_zret d3_30 (Or.inr rfl) rt3
noncomputable def f_Bearing_canAddTo_l2 (v1 : Int32) (v2 : Int32) (v3 : Int32) (h : xH) : Option Int32 :=
  whl (fun s => f_Bearing_canAddTo_s2 v1 v2 s h) v3
theorem f_Bearing_canAddTo_l2_ok {g : xG} {l : Launch} {d : Nat} {v1 : Int32} {v2 : Int32} {v3 : Int32} {h : xH} {o : Int32} {R : Option xV} (hD : 0 ≤ d) (hf : f_Bearing_canAddTo_l2 v1 v2 v3 h = some o) (K0 : ∀ (a : Int32), o = a → R = some (xi a)) : xEv g l d 3 2 [(0, xr 0 (some 0)), (1, xi v1), (2, xi v2), (3, xi v3)] [] h R h := by
  obtain ⟨n, hn⟩ := whl_iff.mp hf
  clear hf
  induction n generalizing v3 with
  | zero => cases hn
  | succ n ih =>
    obtain ⟨o2, hs, hn⟩ := lk_b (show (f_Bearing_canAddTo_s2 v1 v2 v3 h).bind (fun o => Sum.elim (itn _ n) some o) = some o from hn)
    exact f_Bearing_canAddTo_s2_ok hD hs (fun u0 e => ih (by rw [e] at hn; exact hn)) (fun u0 e => K0 u0 (by rw [e] at hn; exact (Option.some.inj hn).symm))
noncomputable def f_Bearing_canAddTo_e (v1 : Int32) (v2 : Int32) (h : xH) : Option Int32 :=
  f_Bearing_canAddTo_l2 v1 v2 v1 h
set_option maxHeartbeats 4000000 in
set_option maxRecDepth 100000 in
theorem f_Bearing_canAddTo_e_ok {g : xG} {l : Launch} {d : Nat} {v1 : Int32} {v2 : Int32} {h : xH} {o : Int32} {R : Option xV} (hD : 0 ≤ d) (hf : f_Bearing_canAddTo_e v1 v2 h = some o) (K0 : ∀ (a : Int32), o = a → R = some (xi a)) : xEv g l d 3 0 [(0, xr 0 (some 0)), (1, xi v1), (2, xi v2)] [] h R h := by
  unfold f_Bearing_canAddTo_e at hf
  refine xs_iload_n d3_0 rfl ?_
  refine xe_istore_n (v := v1) (ls2 := [(0, xr 0 (some 0)), (1, xi v1), (2, xi v2), (3, xi v1)]) d3_1 mx3 (by decide) rfl rfl ?_
  exact f_Bearing_canAddTo_l2_ok hD hf K0
noncomputable def f_Bearing_canAddTo (v1 : Int32) (v2 : Int32) (h : xH) : Option Int32 := f_Bearing_canAddTo_e v1 v2 h
theorem f_Bearing_canAddTo_ok {g : xG} {l : Launch} {d : Nat} {v1 : Int32} {v2 : Int32} {h : xH} {r : Int32} (hD : 0 ≤ d) (hf : f_Bearing_canAddTo v1 v2 h = some r) : xC g l d 3 [xr 0 (some 0), xi v1, xi v2] h (some (xi r)) h :=
  xC_of2 (by decide) mx3 (Nat.le_of_ble_eq_true rfl) (f_Bearing_canAddTo_e_ok hD hf (fun _ e => by rw [e]))
theorem d2_0 : decode (xcode 2) 0 = .ok (.iconst 0, 1) := by decide +kernel
theorem d2_1 : decode (xcode 2) 1 = .ok (.istore_n 2, 1) := by decide +kernel
theorem d2_2 : decode (xcode 2) 2 = .ok (.iload_n 2, 1) := by decide +kernel
theorem d2_3 : decode (xcode 2) 3 = .ok (.sipush 256, 3) := by decide +kernel
theorem d2_6 : decode (xcode 2) 6 = .ok (.if_icmp .ge 24, 3) := by decide +kernel
theorem d2_9 : decode (xcode 2) 9 = .ok (.aload_n 0, 1) := by decide +kernel
theorem d2_10 : decode (xcode 2) 10 = .ok (.getfield 21, 3) := by decide +kernel
theorem d2_13 : decode (xcode 2) 13 = .ok (.iload_n 2, 1) := by decide +kernel
theorem d2_14 : decode (xcode 2) 14 = .ok (.iload_n 2, 1) := by decide +kernel
theorem d2_15 : decode (xcode 2) 15 = .ok (.ifCond .ne 7, 3) := by decide +kernel
theorem d2_18 : decode (xcode 2) 18 = .ok (.iconst 1, 1) := by decide +kernel
theorem d2_19 : decode (xcode 2) 19 = .ok (.goto 4, 3) := by decide +kernel
theorem d2_22 : decode (xcode 2) 22 = .ok (.iconst 0, 1) := by decide +kernel
theorem d2_23 : decode (xcode 2) 23 = .ok (.bastore, 1) := by decide +kernel
theorem d2_24 : decode (xcode 2) 24 = .ok (.iinc 2 1, 3) := by decide +kernel
theorem d2_27 : decode (xcode 2) 27 = .ok (.goto (-25), 3) := by decide +kernel
theorem d2_30 : decode (xcode 2) 30 = .ok (.iconst 0, 1) := by decide +kernel
theorem d2_31 : decode (xcode 2) 31 = .ok (.istore_n 2, 1) := by decide +kernel
theorem d2_32 : decode (xcode 2) 32 = .ok (.iload_n 2, 1) := by decide +kernel
theorem d2_33 : decode (xcode 2) 33 = .ok (.iconst 4, 1) := by decide +kernel
theorem d2_34 : decode (xcode 2) 34 = .ok (.if_icmp .ge 57, 3) := by decide +kernel
theorem d2_37 : decode (xcode 2) 37 = .ok (.sipush 255, 3) := by decide +kernel
theorem d2_40 : decode (xcode 2) 40 = .ok (.istore_n 3, 1) := by decide +kernel
theorem d2_41 : decode (xcode 2) 41 = .ok (.iload_n 3, 1) := by decide +kernel
theorem d2_42 : decode (xcode 2) 42 = .ok (.ifCond .le 43, 3) := by decide +kernel
theorem d2_45 : decode (xcode 2) 45 = .ok (.iload_n 3, 1) := by decide +kernel
theorem d2_46 : decode (xcode 2) 46 = .ok (.iload_n 1, 1) := by decide +kernel
theorem d2_47 : decode (xcode 2) 47 = .ok (.iconst (-1), 1) := by decide +kernel
theorem d2_48 : decode (xcode 2) 48 = .ok (.ixor, 1) := by decide +kernel
theorem d2_49 : decode (xcode 2) 49 = .ok (.iand, 1) := by decide +kernel
theorem d2_50 : decode (xcode 2) 50 = .ok (.ifCond .ne 29, 3) := by decide +kernel
theorem d2_53 : decode (xcode 2) 53 = .ok (.aload_n 0, 1) := by decide +kernel
theorem d2_54 : decode (xcode 2) 54 = .ok (.getfield 21, 3) := by decide +kernel
theorem d2_57 : decode (xcode 2) 57 = .ok (.iload_n 3, 1) := by decide +kernel
theorem d2_58 : decode (xcode 2) 58 = .ok (.baload, 1) := by decide +kernel
theorem d2_59 : decode (xcode 2) 59 = .ok (.ifCond .ne 20, 3) := by decide +kernel
theorem d2_62 : decode (xcode 2) 62 = .ok (.aload_n 0, 1) := by decide +kernel
theorem d2_63 : decode (xcode 2) 63 = .ok (.getfield 21, 3) := by decide +kernel
theorem d2_66 : decode (xcode 2) 66 = .ok (.iload_n 3, 1) := by decide +kernel
theorem d2_67 : decode (xcode 2) 67 = .ok (.aload_n 0, 1) := by decide +kernel
theorem d2_68 : decode (xcode 2) 68 = .ok (.iload_n 3, 1) := by decide +kernel
theorem d2_69 : decode (xcode 2) 69 = .ok (.aload_n 0, 1) := by decide +kernel
theorem d2_70 : decode (xcode 2) 70 = .ok (.getfield 15, 3) := by decide +kernel
theorem d2_73 : decode (xcode 2) 73 = .ok (.iload_n 2, 1) := by decide +kernel
theorem d2_74 : decode (xcode 2) 74 = .ok (.iaload, 1) := by decide +kernel
theorem d2_75 : decode (xcode 2) 75 = .ok (.invokevirtual 66, 3) := by decide +kernel
theorem d2_78 : decode (xcode 2) 78 = .ok (.bastore, 1) := by decide +kernel
theorem d2_79 : decode (xcode 2) 79 = .ok (.iinc 3 (-1), 3) := by decide +kernel
theorem d2_82 : decode (xcode 2) 82 = .ok (.goto (-41), 3) := by decide +kernel
theorem d2_85 : decode (xcode 2) 85 = .ok (.iinc 2 1, 3) := by decide +kernel
theorem d2_88 : decode (xcode 2) 88 = .ok (.goto (-56), 3) := by decide +kernel
theorem d2_91 : decode (xcode 2) 91 = .ok (.iconst 0, 1) := by decide +kernel
theorem d2_92 : decode (xcode 2) 92 = .ok (.istore_n 2, 1) := by decide +kernel
theorem d2_93 : decode (xcode 2) 93 = .ok (.iconst 0, 1) := by decide +kernel
theorem d2_94 : decode (xcode 2) 94 = .ok (.istore_n 3, 1) := by decide +kernel
theorem d2_95 : decode (xcode 2) 95 = .ok (.iload_n 3, 1) := by decide +kernel
theorem d2_96 : decode (xcode 2) 96 = .ok (.sipush 256, 3) := by decide +kernel
theorem d2_99 : decode (xcode 2) 99 = .ok (.if_icmp .ge 29, 3) := by decide +kernel
theorem d2_102 : decode (xcode 2) 102 = .ok (.aload_n 0, 1) := by decide +kernel
theorem d2_103 : decode (xcode 2) 103 = .ok (.getfield 21, 3) := by decide +kernel
theorem d2_106 : decode (xcode 2) 106 = .ok (.iload_n 3, 1) := by decide +kernel
theorem d2_107 : decode (xcode 2) 107 = .ok (.baload, 1) := by decide +kernel
theorem d2_108 : decode (xcode 2) 108 = .ok (.ifCond .eq 14, 3) := by decide +kernel
theorem d2_111 : decode (xcode 2) 111 = .ok (.iload_n 2, 1) := by decide +kernel
theorem d2_112 : decode (xcode 2) 112 = .ok (.aload_n 0, 1) := by decide +kernel
theorem d2_113 : decode (xcode 2) 113 = .ok (.getfield 18, 3) := by decide +kernel
theorem d2_116 : decode (xcode 2) 116 = .ok (.iload_n 3, 1) := by decide +kernel
theorem d2_117 : decode (xcode 2) 117 = .ok (.iaload, 1) := by decide +kernel
theorem d2_118 : decode (xcode 2) 118 = .ok (.invokestatic 70, 3) := by decide +kernel
theorem d2_121 : decode (xcode 2) 121 = .ok (.istore_n 2, 1) := by decide +kernel
theorem d2_122 : decode (xcode 2) 122 = .ok (.iinc 3 1, 3) := by decide +kernel
theorem d2_125 : decode (xcode 2) 125 = .ok (.goto (-30), 3) := by decide +kernel
theorem d2_128 : decode (xcode 2) 128 = .ok (.iload_n 2, 1) := by decide +kernel
theorem d2_129 : decode (xcode 2) 129 = .ok (.ireturn, 1) := by decide +kernel
noncomputable def f_Bearing_mostOf_b122 (v2 : Int32) (v3 : Int32) (h : xH) : Option ((Int32 × Int32) ⊕ (Int32 × xH)) :=
  xlet (v3 + (1 : Int32)) fun v3_6 =>
  some (Sum.inl (v2, v3_6))
set_option maxHeartbeats 4000000 in
set_option maxRecDepth 100000 in
theorem f_Bearing_mostOf_b122_ok {g : xG} {l : Launch} {d : Nat} {v2 : Int32} {v3 : Int32} {h : xH} {o : ((Int32 × Int32) ⊕ (Int32 × xH))} {R : Option xV} {H' : xH} (hD : 1 ≤ d) (hf : f_Bearing_mostOf_b122 v2 v3 h = some o) (K1 : ∀ (w2 : Int32) (w3 : Int32), o = Sum.inl (w2, w3) → xEv g l d 2 95 [(0, xr 0 (some 0)), (2, xi w2), (3, xi w3)] [] h R H') (K0 : ∀ (a : Int32) (h1 : xH), o = Sum.inr ((a, h1)) → R = some (xi a) ∧ H' = h1) : xEv g l d 2 122 [(0, xr 0 (some 0)), (2, xi v2), (3, xi v3)] [] h R H' := by
  unfold f_Bearing_mostOf_b122 at hf
  obtain ⟨v3_6, ev3_6, hf⟩ := lk_let hf
  refine xe_iinc (v := v3_6) (b := 1) (ls2 := [(0, xr 0 (some 0)), (2, xi v2), (3, xi v3_6)]) d2_122 mx2 (by decide) rfl (by decide) ev3_6 rfl ?_
  refine xs_goto (tgt := 95) d2_125 (by decide) ?_
  exact K1 _ _ (Option.some.inj hf).symm
noncomputable def f_Bearing_mostOf_s95 (v2 : Int32) (v3 : Int32) (h : xH) : Option ((Int32 × Int32) ⊕ (Int32 × xH)) :=
  if (256 : Int32) ≤ v3 then (
  some (Sum.inr ((v2, h)))) else (
  if xib v3 256 then (
  if (h.2.2.2.1 16 0 (v3).toNatClampNeg) = (0 : Int32) then (
  f_Bearing_mostOf_b122 v2 v3 h) else (
  if xib v3 256 then (
  (f_Math_max v2 (h.2.2.2.1 15 0 (v3).toNatClampNeg) h).bind fun r8 =>
  f_Bearing_mostOf_b122 r8 v3 h) else none)) else none)
set_option maxHeartbeats 4000000 in
set_option maxRecDepth 100000 in
theorem f_Bearing_mostOf_s95_ok {g : xG} {l : Launch} {d : Nat} {v2 : Int32} {v3 : Int32} {h : xH} {o : ((Int32 × Int32) ⊕ (Int32 × xH))} {R : Option xV} {H' : xH} (hD : 1 ≤ d) (hf : f_Bearing_mostOf_s95 v2 v3 h = some o) (K1 : ∀ (w2 : Int32) (w3 : Int32), o = Sum.inl (w2, w3) → xEv g l d 2 95 [(0, xr 0 (some 0)), (2, xi w2), (3, xi w3)] [] h R H') (K0 : ∀ (a : Int32) (h1 : xH), o = Sum.inr ((a, h1)) → R = some (xi a) ∧ H' = h1) : xEv g l d 2 95 [(0, xr 0 (some 0)), (2, xi v2), (3, xi v3)] [] h R H' := by
  unfold f_Bearing_mostOf_s95 at hf
  refine xs_iload_n d2_95 rfl ?_
  refine xs_sipush (v := 256) d2_96 (by decide) ?_
  rcases lk_if hf with ⟨hc3, hf⟩ | ⟨hc3, hf⟩
  · refine xs_icmp_ge (tgt := 128) d2_99 (by decide) (fun _ => ?_) (fun hn => absurd hc3 hn)
    refine xs_iload_n d2_128 rfl ?_
    obtain ⟨eR, eH⟩ := K0 _ _ (Option.some.inj hf).symm
    subst eR; subst eH
    exact xs_iret d2_129 rt2
  · refine xs_icmp_ge (tgt := 128) d2_99 (by decide) (fun hp => absurd hp hc3) (fun _ => ?_)
    refine xs_aload_n d2_102 rfl ?_
    refine xe_getc (j := 0) d2_103 ky2 fl146 fk0_4 rfl ?_
    refine xs_iload_n d2_106 rfl ?_
    obtain ⟨hin4, hf⟩ := lk_g hf
    refine xe_zald d2_107 (by decide) ak16 hin4 ?_
    rcases lk_if hf with ⟨hc5, hf⟩ | ⟨hc5, hf⟩
    · refine xs_if_eq (tgt := 122) d2_108 (by decide) (fun _ => ?_) (fun hn => absurd hc5 hn)
      exact f_Bearing_mostOf_b122_ok hD hf K1 K0
    · refine xs_if_eq (tgt := 122) d2_108 (by decide) (fun hp => absurd hp hc5) (fun _ => ?_)
      refine xs_iload_n d2_111 rfl ?_
      refine xs_aload_n d2_112 rfl ?_
      refine xe_getc (j := 0) d2_113 ky2 fl145 fk0_3 rfl ?_
      refine xs_iload_n d2_116 rfl ?_
      obtain ⟨hin7, hf⟩ := lk_g hf
      refine xe_iald d2_117 (by decide) ak15 hin7 ?_
      obtain ⟨r8, hc9, hf⟩ := lk_b hf
      refine xe_calls1 (as := [xi v2, xi (h.2.2.2.1 15 0 (v3).toNatClampNeg)]) (st := []) (h2 := h) (d2 := d - 1) d2_118 ky2 ml141 st256 rfl na256 (Nat.le_of_ble_eq_true rfl) (by omega) (f_Math_max_ok (by omega) hc9) ?_
      refine xe_istore_n (v := r8) (ls2 := [(0, xr 0 (some 0)), (2, xi r8), (3, xi v3)]) d2_121 mx2 (by decide) rfl rfl ?_
      exact f_Bearing_mostOf_b122_ok hD hf K1 K0
noncomputable def f_Bearing_mostOf_l95 (v2 : Int32) (v3 : Int32) (h : xH) : Option (Int32 × xH) :=
  whl (fun s => f_Bearing_mostOf_s95 s.1 s.2 h) (v2, v3)
theorem f_Bearing_mostOf_l95_ok {g : xG} {l : Launch} {d : Nat} {v2 : Int32} {v3 : Int32} {h : xH} {o : (Int32 × xH)} {R : Option xV} {H' : xH} (hD : 1 ≤ d) (hf : f_Bearing_mostOf_l95 v2 v3 h = some o) (K0 : ∀ (a : Int32) (h1 : xH), o = (a, h1) → R = some (xi a) ∧ H' = h1) : xEv g l d 2 95 [(0, xr 0 (some 0)), (2, xi v2), (3, xi v3)] [] h R H' := by
  obtain ⟨n, hn⟩ := whl_iff.mp hf
  clear hf
  induction n generalizing v2 v3 with
  | zero => cases hn
  | succ n ih =>
    obtain ⟨o2, hs, hn⟩ := lk_b (show (f_Bearing_mostOf_s95 v2 v3 h).bind (fun o => Sum.elim (itn _ n) some o) = some o from hn)
    exact f_Bearing_mostOf_s95_ok hD hs (fun u0 u1 e => ih (by rw [e] at hn; exact hn)) (fun u0 u1 e => K0 u0 u1 (by rw [e] at hn; exact (Option.some.inj hn).symm))
noncomputable def f_Bearing_mostOf_b91 (h : xH) : Option (Int32 × xH) :=
  f_Bearing_mostOf_l95 (0 : Int32) (0 : Int32) h
set_option maxHeartbeats 4000000 in
set_option maxRecDepth 100000 in
theorem f_Bearing_mostOf_b91_ok {g : xG} {l : Launch} {d : Nat} {h : xH} {o : (Int32 × xH)} {R : Option xV} {H' : xH} (hD : 1 ≤ d) (hf : f_Bearing_mostOf_b91 h = some o) (K0 : ∀ (a : Int32) (h1 : xH), o = (a, h1) → R = some (xi a) ∧ H' = h1) : xEv g l d 2 91 [(0, xr 0 (some 0))] [] h R H' := by
  unfold f_Bearing_mostOf_b91 at hf
  refine xs_iconst (v := 0) d2_91 (by decide) ?_
  refine xe_istore_n (v := (0 : Int32)) (ls2 := [(0, xr 0 (some 0)), (2, xi (0 : Int32))]) d2_92 mx2 (by decide) rfl rfl ?_
  refine xs_iconst (v := 0) d2_93 (by decide) ?_
  refine xe_istore_n (v := (0 : Int32)) (ls2 := [(0, xr 0 (some 0)), (2, xi (0 : Int32)), (3, xi (0 : Int32))]) d2_94 mx2 (by decide) rfl rfl ?_
  exact f_Bearing_mostOf_l95_ok hD hf K0
noncomputable def f_Bearing_mostOf_b85 (v1 : Int32) (v2 : Int32) (h : xH) : Option ((Int32 × xH) ⊕ (Int32 × xH)) :=
  xlet (v2 + (1 : Int32)) fun v2_11 =>
  some (Sum.inl (v2_11, h))
set_option maxHeartbeats 4000000 in
set_option maxRecDepth 100000 in
theorem f_Bearing_mostOf_b85_ok {g : xG} {l : Launch} {d : Nat} {v1 : Int32} {v2 : Int32} {h : xH} {o : ((Int32 × xH) ⊕ (Int32 × xH))} {R : Option xV} {H' : xH} (hD : 1 ≤ d) (hf : f_Bearing_mostOf_b85 v1 v2 h = some o) (K1 : ∀ (w2 : Int32) (h1 : xH), o = Sum.inl (w2, h1) → xEv g l d 2 32 [(0, xr 0 (some 0)), (1, xi v1), (2, xi w2)] [] h1 R H') (K0 : ∀ (a : Int32) (h1 : xH), o = Sum.inr ((a, h1)) → R = some (xi a) ∧ H' = h1) : xEv g l d 2 85 [(0, xr 0 (some 0)), (1, xi v1), (2, xi v2)] [] h R H' := by
  unfold f_Bearing_mostOf_b85 at hf
  obtain ⟨v2_11, ev2_11, hf⟩ := lk_let hf
  refine xe_iinc (v := v2_11) (b := 1) (ls2 := [(0, xr 0 (some 0)), (1, xi v1), (2, xi v2_11)]) d2_85 mx2 (by decide) rfl (by decide) ev2_11 rfl ?_
  refine xs_goto (tgt := 32) d2_88 (by decide) ?_
  exact K1 _ _ (Option.some.inj hf).symm
noncomputable def f_Bearing_mostOf_b79 (v1 : Int32) (v2 : Int32) (v3 : Int32) (h : xH) : Option ((Int32 × xH) ⊕ ((Int32 × xH) ⊕ (Int32 × xH))) :=
  xlet (v3 + (-1 : Int32)) fun v3_21 =>
  some (Sum.inl (v3_21, h))
set_option maxHeartbeats 4000000 in
set_option maxRecDepth 100000 in
theorem f_Bearing_mostOf_b79_ok {g : xG} {l : Launch} {d : Nat} {v1 : Int32} {v2 : Int32} {v3 : Int32} {h : xH} {o : ((Int32 × xH) ⊕ ((Int32 × xH) ⊕ (Int32 × xH)))} {R : Option xV} {H' : xH} (hD : 1 ≤ d) (hf : f_Bearing_mostOf_b79 v1 v2 v3 h = some o) (K1 : ∀ (w2 : Int32) (h1 : xH), o = Sum.inr (Sum.inl (w2, h1)) → xEv g l d 2 32 [(0, xr 0 (some 0)), (1, xi v1), (2, xi w2)] [] h1 R H') (K2 : ∀ (w3 : Int32) (h1 : xH), o = Sum.inl (w3, h1) → xEv g l d 2 41 [(0, xr 0 (some 0)), (1, xi v1), (2, xi v2), (3, xi w3)] [] h1 R H') (K0 : ∀ (a : Int32) (h1 : xH), o = Sum.inr (Sum.inr ((a, h1))) → R = some (xi a) ∧ H' = h1) : xEv g l d 2 79 [(0, xr 0 (some 0)), (1, xi v1), (2, xi v2), (3, xi v3)] [] h R H' := by
  unfold f_Bearing_mostOf_b79 at hf
  obtain ⟨v3_21, ev3_21, hf⟩ := lk_let hf
  refine xe_iinc (v := v3_21) (b := -1) (ls2 := [(0, xr 0 (some 0)), (1, xi v1), (2, xi v2), (3, xi v3_21)]) d2_79 mx2 (by decide) rfl (by decide) ev3_21 rfl ?_
  refine xs_goto (tgt := 41) d2_82 (by decide) ?_
  exact K2 _ _ (Option.some.inj hf).symm
noncomputable def f_Bearing_mostOf_s41 (v1 : Int32) (v2 : Int32) (v3 : Int32) (h : xH) : Option ((Int32 × xH) ⊕ ((Int32 × xH) ⊕ (Int32 × xH))) :=
  if v3 ≤ (0 : Int32) then (
  xup (f_Bearing_mostOf_b85 v1 v2 h)) else (
  if (v3 &&& (v1 ^^^ (-1 : Int32))) = (0 : Int32) then (
  if xib v3 256 then (
  if (h.2.2.2.1 16 0 (v3).toNatClampNeg) = (0 : Int32) then (
  if xib v2 4 then (
  (f_Bearing_canAddTo v3 (h.2.2.2.1 14 0 (v2).toNatClampNeg) h).bind fun r16 =>
  if xib v3 256 then (
  if r16 = 0 ∨ r16 = 1 then (
  xlet (xsA h 16 0 (upd (h.2.2.2.1 16 0) (v3).toNatClampNeg r16)) fun h19 =>
  f_Bearing_mostOf_b79 v1 v2 v3 h19) else none) else none) else none) else (
  f_Bearing_mostOf_b79 v1 v2 v3 h)) else none) else (
  f_Bearing_mostOf_b79 v1 v2 v3 h))
set_option maxHeartbeats 4000000 in
set_option maxRecDepth 100000 in
theorem f_Bearing_mostOf_s41_ok {g : xG} {l : Launch} {d : Nat} {v1 : Int32} {v2 : Int32} {v3 : Int32} {h : xH} {o : ((Int32 × xH) ⊕ ((Int32 × xH) ⊕ (Int32 × xH)))} {R : Option xV} {H' : xH} (hD : 1 ≤ d) (hf : f_Bearing_mostOf_s41 v1 v2 v3 h = some o) (K1 : ∀ (w2 : Int32) (h1 : xH), o = Sum.inr (Sum.inl (w2, h1)) → xEv g l d 2 32 [(0, xr 0 (some 0)), (1, xi v1), (2, xi w2)] [] h1 R H') (K2 : ∀ (w3 : Int32) (h1 : xH), o = Sum.inl (w3, h1) → xEv g l d 2 41 [(0, xr 0 (some 0)), (1, xi v1), (2, xi v2), (3, xi w3)] [] h1 R H') (K0 : ∀ (a : Int32) (h1 : xH), o = Sum.inr (Sum.inr ((a, h1))) → R = some (xi a) ∧ H' = h1) : xEv g l d 2 41 [(0, xr 0 (some 0)), (1, xi v1), (2, xi v2), (3, xi v3)] [] h R H' := by
  unfold f_Bearing_mostOf_s41 at hf
  refine xs_iload_n d2_41 rfl ?_
  rcases lk_if hf with ⟨hc10, hf⟩ | ⟨hc10, hf⟩
  · refine xs_if_le (tgt := 85) d2_42 (by decide) (fun _ => ?_) (fun hn => absurd hc10 hn)
    refine xs_pick [0, 1, 2] rfl ?_
    obtain ⟨x0, hf, ex0⟩ := lk_up hf
    exact f_Bearing_mostOf_b85_ok hD hf (fun u0 u1 e => K1 u0 u1 (ex0.trans (congrArg Sum.inr e))) (fun u0 u1 e => K0 u0 u1 (ex0.trans (congrArg Sum.inr e)))
  · refine xs_if_le (tgt := 85) d2_42 (by decide) (fun hp => absurd hp hc10) (fun _ => ?_)
    refine xs_iload_n d2_45 rfl ?_
    refine xs_iload_n d2_46 rfl ?_
    refine xs_iconst (v := -1) d2_47 (by decide) ?_
    refine xs_ixor d2_48 ?_
    refine xs_iand d2_49 ?_
    rcases lk_if hf with ⟨hc12, hf⟩ | ⟨hc12, hf⟩
    · refine xs_if_ne (tgt := 79) d2_50 (by decide) (fun _ => ?_) (fun hn => absurd hc12 hn)
      refine xs_aload_n d2_53 rfl ?_
      refine xe_getc (j := 0) d2_54 ky2 fl146 fk0_4 rfl ?_
      refine xs_iload_n d2_57 rfl ?_
      obtain ⟨hin13, hf⟩ := lk_g hf
      refine xe_zald d2_58 (by decide) ak16 hin13 ?_
      rcases lk_if hf with ⟨hc14, hf⟩ | ⟨hc14, hf⟩
      · refine xs_if_ne (tgt := 79) d2_59 (by decide) (fun _ => ?_) (fun hn => absurd hc14 hn)
        refine xs_aload_n d2_62 rfl ?_
        refine xe_getc (j := 0) d2_63 ky2 fl146 fk0_4 rfl ?_
        refine xs_iload_n d2_66 rfl ?_
        refine xs_aload_n d2_67 rfl ?_
        refine xs_iload_n d2_68 rfl ?_
        refine xs_aload_n d2_69 rfl ?_
        refine xe_getc (j := 0) d2_70 ky2 fl144 fk0_2 rfl ?_
        refine xs_iload_n d2_73 rfl ?_
        obtain ⟨hin15, hf⟩ := lk_g hf
        refine xe_iald d2_74 (by decide) ak14 hin15 ?_
        obtain ⟨r16, hc17, hf⟩ := lk_b hf
        refine xe_callv1 (as := [xi v3, xi (h.2.2.2.1 14 0 (v2).toNatClampNeg)]) (st := [xi v3, xr 16 (some 0)]) (h2 := h) (d2 := d - 1) d2_75 ky2 ml140 st3 (by decide) cn3 rfl na3 (Nat.le_of_ble_eq_true rfl) (by omega) (f_Bearing_canAddTo_ok (by omega) hc17) ?_
        obtain ⟨hin18, hf⟩ := lk_g hf
        obtain ⟨hz20, hf⟩ := lk_g hf
        obtain ⟨h19, eh19, hf⟩ := lk_let hf
        refine xe_zast d2_78 (by decide) ak16 hin18 hz20 eh19 ?_
        exact f_Bearing_mostOf_b79_ok hD hf K1 K2 K0
      · refine xs_if_ne (tgt := 79) d2_59 (by decide) (fun hp => absurd hp hc14) (fun _ => ?_)
        exact f_Bearing_mostOf_b79_ok hD hf K1 K2 K0
    · refine xs_if_ne (tgt := 79) d2_50 (by decide) (fun hp => absurd hp hc12) (fun _ => ?_)
      exact f_Bearing_mostOf_b79_ok hD hf K1 K2 K0
noncomputable def f_Bearing_mostOf_l41 (v1 : Int32) (v2 : Int32) (v3 : Int32) (h : xH) : Option ((Int32 × xH) ⊕ (Int32 × xH)) :=
  whl (fun s => f_Bearing_mostOf_s41 v1 v2 s.1 s.2) (v3, h)
theorem f_Bearing_mostOf_l41_ok {g : xG} {l : Launch} {d : Nat} {v1 : Int32} {v2 : Int32} {v3 : Int32} {h : xH} {o : ((Int32 × xH) ⊕ (Int32 × xH))} {R : Option xV} {H' : xH} (hD : 1 ≤ d) (hf : f_Bearing_mostOf_l41 v1 v2 v3 h = some o) (K1 : ∀ (w2 : Int32) (h1 : xH), o = Sum.inl (w2, h1) → xEv g l d 2 32 [(0, xr 0 (some 0)), (1, xi v1), (2, xi w2)] [] h1 R H') (K0 : ∀ (a : Int32) (h1 : xH), o = Sum.inr ((a, h1)) → R = some (xi a) ∧ H' = h1) : xEv g l d 2 41 [(0, xr 0 (some 0)), (1, xi v1), (2, xi v2), (3, xi v3)] [] h R H' := by
  obtain ⟨n, hn⟩ := whl_iff.mp hf
  clear hf
  induction n generalizing v3 h with
  | zero => cases hn
  | succ n ih =>
    obtain ⟨o2, hs, hn⟩ := lk_b (show (f_Bearing_mostOf_s41 v1 v2 v3 h).bind (fun o => Sum.elim (itn _ n) some o) = some o from hn)
    exact f_Bearing_mostOf_s41_ok hD hs (fun u0 u1 e => K1 u0 u1 (by rw [e] at hn; exact (Option.some.inj hn).symm)) (fun u0 u1 e => ih (by rw [e] at hn; exact hn)) (fun u0 u1 e => K0 u0 u1 (by rw [e] at hn; exact (Option.some.inj hn).symm))
noncomputable def f_Bearing_mostOf_s32 (v1 : Int32) (v2 : Int32) (h : xH) : Option ((Int32 × xH) ⊕ (Int32 × xH)) :=
  if (4 : Int32) ≤ v2 then (
  xup (f_Bearing_mostOf_b91 h)) else (
  f_Bearing_mostOf_l41 v1 v2 (255 : Int32) h)
set_option maxHeartbeats 4000000 in
set_option maxRecDepth 100000 in
theorem f_Bearing_mostOf_s32_ok {g : xG} {l : Launch} {d : Nat} {v1 : Int32} {v2 : Int32} {h : xH} {o : ((Int32 × xH) ⊕ (Int32 × xH))} {R : Option xV} {H' : xH} (hD : 1 ≤ d) (hf : f_Bearing_mostOf_s32 v1 v2 h = some o) (K1 : ∀ (w2 : Int32) (h1 : xH), o = Sum.inl (w2, h1) → xEv g l d 2 32 [(0, xr 0 (some 0)), (1, xi v1), (2, xi w2)] [] h1 R H') (K0 : ∀ (a : Int32) (h1 : xH), o = Sum.inr ((a, h1)) → R = some (xi a) ∧ H' = h1) : xEv g l d 2 32 [(0, xr 0 (some 0)), (1, xi v1), (2, xi v2)] [] h R H' := by
  unfold f_Bearing_mostOf_s32 at hf
  refine xs_iload_n d2_32 rfl ?_
  refine xs_iconst (v := 4) d2_33 (by decide) ?_
  rcases lk_if hf with ⟨hc2, hf⟩ | ⟨hc2, hf⟩
  · refine xs_icmp_ge (tgt := 91) d2_34 (by decide) (fun _ => ?_) (fun hn => absurd hc2 hn)
    refine xs_pick [0] rfl ?_
    obtain ⟨x0, hf, ex0⟩ := lk_up hf
    exact f_Bearing_mostOf_b91_ok hD hf (fun u0 u1 e => K0 u0 u1 (ex0.trans (congrArg Sum.inr e)))
  · refine xs_icmp_ge (tgt := 91) d2_34 (by decide) (fun hp => absurd hp hc2) (fun _ => ?_)
    refine xs_sipush (v := 255) d2_37 (by decide) ?_
    refine xe_istore_n (v := (255 : Int32)) (ls2 := [(0, xr 0 (some 0)), (1, xi v1), (2, xi v2), (3, xi (255 : Int32))]) d2_40 mx2 (by decide) rfl rfl ?_
    exact f_Bearing_mostOf_l41_ok hD hf K1 K0
noncomputable def f_Bearing_mostOf_l32 (v1 : Int32) (v2 : Int32) (h : xH) : Option (Int32 × xH) :=
  whl (fun s => f_Bearing_mostOf_s32 v1 s.1 s.2) (v2, h)
theorem f_Bearing_mostOf_l32_ok {g : xG} {l : Launch} {d : Nat} {v1 : Int32} {v2 : Int32} {h : xH} {o : (Int32 × xH)} {R : Option xV} {H' : xH} (hD : 1 ≤ d) (hf : f_Bearing_mostOf_l32 v1 v2 h = some o) (K0 : ∀ (a : Int32) (h1 : xH), o = (a, h1) → R = some (xi a) ∧ H' = h1) : xEv g l d 2 32 [(0, xr 0 (some 0)), (1, xi v1), (2, xi v2)] [] h R H' := by
  obtain ⟨n, hn⟩ := whl_iff.mp hf
  clear hf
  induction n generalizing v2 h with
  | zero => cases hn
  | succ n ih =>
    obtain ⟨o2, hs, hn⟩ := lk_b (show (f_Bearing_mostOf_s32 v1 v2 h).bind (fun o => Sum.elim (itn _ n) some o) = some o from hn)
    exact f_Bearing_mostOf_s32_ok hD hs (fun u0 u1 e => ih (by rw [e] at hn; exact hn)) (fun u0 u1 e => K0 u0 u1 (by rw [e] at hn; exact (Option.some.inj hn).symm))
noncomputable def f_Bearing_mostOf_b30 (v1 : Int32) (h : xH) : Option (Int32 × xH) :=
  f_Bearing_mostOf_l32 v1 (0 : Int32) h
set_option maxHeartbeats 4000000 in
set_option maxRecDepth 100000 in
theorem f_Bearing_mostOf_b30_ok {g : xG} {l : Launch} {d : Nat} {v1 : Int32} {h : xH} {o : (Int32 × xH)} {R : Option xV} {H' : xH} (hD : 1 ≤ d) (hf : f_Bearing_mostOf_b30 v1 h = some o) (K0 : ∀ (a : Int32) (h1 : xH), o = (a, h1) → R = some (xi a) ∧ H' = h1) : xEv g l d 2 30 [(0, xr 0 (some 0)), (1, xi v1)] [] h R H' := by
  unfold f_Bearing_mostOf_b30 at hf
  refine xs_iconst (v := 0) d2_30 (by decide) ?_
  refine xe_istore_n (v := (0 : Int32)) (ls2 := [(0, xr 0 (some 0)), (1, xi v1), (2, xi (0 : Int32))]) d2_31 mx2 (by decide) rfl rfl ?_
  exact f_Bearing_mostOf_l32_ok hD hf K0
noncomputable def f_Bearing_mostOf_b23 (v1 : Int32) (v2 : Int32) (t0 : Int32) (t1 : Int32) (h : xH) : Option ((Int32 × xH) ⊕ (Int32 × xH)) :=
  if xib t1 256 then (
  if t0 = 0 ∨ t0 = 1 then (
  xlet (xsA h 16 0 (upd (h.2.2.2.1 16 0) (t1).toNatClampNeg t0)) fun h24 =>
  xlet (v2 + (1 : Int32)) fun v2_26 =>
  some (Sum.inl (v2_26, h24))) else none) else none
set_option maxHeartbeats 4000000 in
set_option maxRecDepth 100000 in
theorem f_Bearing_mostOf_b23_ok {g : xG} {l : Launch} {d : Nat} {v1 : Int32} {v2 : Int32} {t0 : Int32} {t1 : Int32} {h : xH} {o : ((Int32 × xH) ⊕ (Int32 × xH))} {R : Option xV} {H' : xH} (hD : 1 ≤ d) (hf : f_Bearing_mostOf_b23 v1 v2 t0 t1 h = some o) (K1 : ∀ (w2 : Int32) (h1 : xH), o = Sum.inl (w2, h1) → xEv g l d 2 2 [(0, xr 0 (some 0)), (1, xi v1), (2, xi w2)] [] h1 R H') (K0 : ∀ (a : Int32) (h1 : xH), o = Sum.inr ((a, h1)) → R = some (xi a) ∧ H' = h1) : xEv g l d 2 23 [(0, xr 0 (some 0)), (1, xi v1), (2, xi v2)] [xi t0, xi t1, xr 16 (some 0)] h R H' := by
  unfold f_Bearing_mostOf_b23 at hf
  obtain ⟨hin23, hf⟩ := lk_g hf
  obtain ⟨hz25, hf⟩ := lk_g hf
  obtain ⟨h24, eh24, hf⟩ := lk_let hf
  refine xe_zast d2_23 (by decide) ak16 hin23 hz25 eh24 ?_
  obtain ⟨v2_26, ev2_26, hf⟩ := lk_let hf
  refine xe_iinc (v := v2_26) (b := 1) (ls2 := [(0, xr 0 (some 0)), (1, xi v1), (2, xi v2_26)]) d2_24 mx2 (by decide) rfl (by decide) ev2_26 rfl ?_
  refine xs_goto (tgt := 2) d2_27 (by decide) ?_
  exact K1 _ _ (Option.some.inj hf).symm
noncomputable def f_Bearing_mostOf_s2 (v1 : Int32) (v2 : Int32) (h : xH) : Option ((Int32 × xH) ⊕ (Int32 × xH)) :=
  if (256 : Int32) ≤ v2 then (
  xup (f_Bearing_mostOf_b30 v1 h)) else (
  if v2 = (0 : Int32) then (
  f_Bearing_mostOf_b23 v1 v2 (1 : Int32) v2 h) else (
  f_Bearing_mostOf_b23 v1 v2 (0 : Int32) v2 h))
set_option maxHeartbeats 4000000 in
set_option maxRecDepth 100000 in
theorem f_Bearing_mostOf_s2_ok {g : xG} {l : Launch} {d : Nat} {v1 : Int32} {v2 : Int32} {h : xH} {o : ((Int32 × xH) ⊕ (Int32 × xH))} {R : Option xV} {H' : xH} (hD : 1 ≤ d) (hf : f_Bearing_mostOf_s2 v1 v2 h = some o) (K1 : ∀ (w2 : Int32) (h1 : xH), o = Sum.inl (w2, h1) → xEv g l d 2 2 [(0, xr 0 (some 0)), (1, xi v1), (2, xi w2)] [] h1 R H') (K0 : ∀ (a : Int32) (h1 : xH), o = Sum.inr ((a, h1)) → R = some (xi a) ∧ H' = h1) : xEv g l d 2 2 [(0, xr 0 (some 0)), (1, xi v1), (2, xi v2)] [] h R H' := by
  unfold f_Bearing_mostOf_s2 at hf
  refine xs_iload_n d2_2 rfl ?_
  refine xs_sipush (v := 256) d2_3 (by decide) ?_
  rcases lk_if hf with ⟨hc1, hf⟩ | ⟨hc1, hf⟩
  · refine xs_icmp_ge (tgt := 30) d2_6 (by decide) (fun _ => ?_) (fun hn => absurd hc1 hn)
    refine xs_pick [0, 1] rfl ?_
    obtain ⟨x0, hf, ex0⟩ := lk_up hf
    exact f_Bearing_mostOf_b30_ok hD hf (fun u0 u1 e => K0 u0 u1 (ex0.trans (congrArg Sum.inr e)))
  · refine xs_icmp_ge (tgt := 30) d2_6 (by decide) (fun hp => absurd hp hc1) (fun _ => ?_)
    refine xs_aload_n d2_9 rfl ?_
    refine xe_getc (j := 0) d2_10 ky2 fl146 fk0_4 rfl ?_
    refine xs_iload_n d2_13 rfl ?_
    refine xs_iload_n d2_14 rfl ?_
    rcases lk_if hf with ⟨hc22, hf⟩ | ⟨hc22, hf⟩
    · refine xs_if_ne (tgt := 22) d2_15 (by decide) (fun _ => ?_) (fun hn => absurd hc22 hn)
      refine xs_iconst (v := 1) d2_18 (by decide) ?_
      refine xs_goto (tgt := 23) d2_19 (by decide) ?_
      exact f_Bearing_mostOf_b23_ok hD hf K1 K0
    · refine xs_if_ne (tgt := 22) d2_15 (by decide) (fun hp => absurd hp hc22) (fun _ => ?_)
      refine xs_iconst (v := 0) d2_22 (by decide) ?_
      exact f_Bearing_mostOf_b23_ok hD hf K1 K0
noncomputable def f_Bearing_mostOf_l2 (v1 : Int32) (v2 : Int32) (h : xH) : Option (Int32 × xH) :=
  whl (fun s => f_Bearing_mostOf_s2 v1 s.1 s.2) (v2, h)
theorem f_Bearing_mostOf_l2_ok {g : xG} {l : Launch} {d : Nat} {v1 : Int32} {v2 : Int32} {h : xH} {o : (Int32 × xH)} {R : Option xV} {H' : xH} (hD : 1 ≤ d) (hf : f_Bearing_mostOf_l2 v1 v2 h = some o) (K0 : ∀ (a : Int32) (h1 : xH), o = (a, h1) → R = some (xi a) ∧ H' = h1) : xEv g l d 2 2 [(0, xr 0 (some 0)), (1, xi v1), (2, xi v2)] [] h R H' := by
  obtain ⟨n, hn⟩ := whl_iff.mp hf
  clear hf
  induction n generalizing v2 h with
  | zero => cases hn
  | succ n ih =>
    obtain ⟨o2, hs, hn⟩ := lk_b (show (f_Bearing_mostOf_s2 v1 v2 h).bind (fun o => Sum.elim (itn _ n) some o) = some o from hn)
    exact f_Bearing_mostOf_s2_ok hD hs (fun u0 u1 e => ih (by rw [e] at hn; exact hn)) (fun u0 u1 e => K0 u0 u1 (by rw [e] at hn; exact (Option.some.inj hn).symm))
noncomputable def f_Bearing_mostOf_e (v1 : Int32) (h : xH) : Option (Int32 × xH) :=
  f_Bearing_mostOf_l2 v1 (0 : Int32) h
set_option maxHeartbeats 4000000 in
set_option maxRecDepth 100000 in
theorem f_Bearing_mostOf_e_ok {g : xG} {l : Launch} {d : Nat} {v1 : Int32} {h : xH} {o : (Int32 × xH)} {R : Option xV} {H' : xH} (hD : 1 ≤ d) (hf : f_Bearing_mostOf_e v1 h = some o) (K0 : ∀ (a : Int32) (h1 : xH), o = (a, h1) → R = some (xi a) ∧ H' = h1) : xEv g l d 2 0 [(0, xr 0 (some 0)), (1, xi v1)] [] h R H' := by
  unfold f_Bearing_mostOf_e at hf
  refine xs_iconst (v := 0) d2_0 (by decide) ?_
  refine xe_istore_n (v := (0 : Int32)) (ls2 := [(0, xr 0 (some 0)), (1, xi v1), (2, xi (0 : Int32))]) d2_1 mx2 (by decide) rfl rfl ?_
  exact f_Bearing_mostOf_l2_ok hD hf K0
noncomputable def f_Bearing_mostOf (v1 : Int32) (h : xH) : Option (Int32 × xH) := f_Bearing_mostOf_e v1 h
theorem f_Bearing_mostOf_ok {g : xG} {l : Launch} {d : Nat} {v1 : Int32} {h : xH} {r : Int32} {h1 : xH} (hD : 1 ≤ d) (hf : f_Bearing_mostOf v1 h = some (r, h1)) : xC g l d 2 [xr 0 (some 0), xi v1] h (some (xi r)) h1 :=
  xC_of2 (by decide) mx2 (Nat.le_of_ble_eq_true rfl) (f_Bearing_mostOf_e_ok hD hf (fun _ _ e => by cases e; exact ⟨rfl, rfl⟩))
theorem d47_0 : decode (xcode 47) 0 = .ok (.iload_n 1, 1) := by decide +kernel
theorem d47_1 : decode (xcode 47) 1 = .ok (.ifCond .lt 24, 3) := by decide +kernel
theorem d47_4 : decode (xcode 47) 4 = .ok (.iload_n 1, 1) := by decide +kernel
theorem d47_5 : decode (xcode 47) 5 = .ok (.bipush 8, 2) := by decide +kernel
theorem d47_7 : decode (xcode 47) 7 = .ok (.if_icmp .ge 18, 3) := by decide +kernel
theorem d47_10 : decode (xcode 47) 10 = .ok (.aload_n 0, 1) := by decide +kernel
theorem d47_11 : decode (xcode 47) 11 = .ok (.getfield 36, 3) := by decide +kernel
theorem d47_14 : decode (xcode 47) 14 = .ok (.iload_n 1, 1) := by decide +kernel
theorem d47_15 : decode (xcode 47) 15 = .ok (.ishr, 1) := by decide +kernel
theorem d47_16 : decode (xcode 47) 16 = .ok (.iconst 1, 1) := by decide +kernel
theorem d47_17 : decode (xcode 47) 17 = .ok (.iand, 1) := by decide +kernel
theorem d47_18 : decode (xcode 47) 18 = .ok (.ifCond .eq 7, 3) := by decide +kernel
theorem d47_21 : decode (xcode 47) 21 = .ok (.iconst 1, 1) := by decide +kernel
theorem d47_22 : decode (xcode 47) 22 = .ok (.goto 4, 3) := by decide +kernel
theorem d47_25 : decode (xcode 47) 25 = .ok (.iconst 0, 1) := by decide +kernel
theorem d47_26 : decode (xcode 47) 26 = .ok (.ireturn, 1) := by decide +kernel
noncomputable def f_State_isIn_e (i0 : Nat) (v1 : Int32) (h : xH) : Option Int32 :=
  if v1 < (0 : Int32) then (
  some ((0 : Int32))) else (
  if (8 : Int32) ≤ v1 then (
  some ((0 : Int32))) else (
  if (((h.1 6 2 i0) >>> (v1 &&& 31)) &&& (1 : Int32)) = (0 : Int32) then (
  some ((0 : Int32))) else (
  some ((1 : Int32)))))
set_option maxHeartbeats 4000000 in
set_option maxRecDepth 100000 in
theorem f_State_isIn_e_ok {g : xG} {l : Launch} {d : Nat} {i0 : Nat} {v1 : Int32} {h : xH} {o : Int32} {R : Option xV} (hD : 0 ≤ d) (hf : f_State_isIn_e i0 v1 h = some o) (K0 : ∀ (a : Int32), o = a → R = some (xi a)) : xEv g l d 47 0 [(0, xr 6 (some i0)), (1, xi v1)] [] h R h := by
  unfold f_State_isIn_e at hf
  refine xs_iload_n d47_0 rfl ?_
  rcases lk_if hf with ⟨hc1, hf⟩ | ⟨hc1, hf⟩
  · refine xs_if_lt (tgt := 25) d47_1 (by decide) (fun _ => ?_) (fun hn => absurd hc1 hn)
    refine xs_iconst (v := 0) d47_25 (by decide) ?_
    obtain eR := K0 _ (Option.some.inj hf).symm
    subst eR
    exact xe_zret d47_26 (Or.inl rfl) rt47
  · refine xs_if_lt (tgt := 25) d47_1 (by decide) (fun hp => absurd hp hc1) (fun _ => ?_)
    refine xs_iload_n d47_4 rfl ?_
    refine xs_bipush (v := 8) d47_5 (by decide) ?_
    rcases lk_if hf with ⟨hc2, hf⟩ | ⟨hc2, hf⟩
    · refine xs_icmp_ge (tgt := 25) d47_7 (by decide) (fun _ => ?_) (fun hn => absurd hc2 hn)
      refine xs_iconst (v := 0) d47_25 (by decide) ?_
      obtain eR := K0 _ (Option.some.inj hf).symm
      subst eR
      exact xe_zret d47_26 (Or.inl rfl) rt47
    · refine xs_icmp_ge (tgt := 25) d47_7 (by decide) (fun hp => absurd hp hc2) (fun _ => ?_)
      refine xs_aload_n d47_10 rfl ?_
      refine xe_geti d47_11 ky47 fl74 fk6_2 ?_
      refine xs_iload_n d47_14 rfl ?_
      refine xs_ishr d47_15 ?_
      refine xs_iconst (v := 1) d47_16 (by decide) ?_
      refine xs_iand d47_17 ?_
      rcases lk_if hf with ⟨hc3, hf⟩ | ⟨hc3, hf⟩
      · refine xs_if_eq (tgt := 25) d47_18 (by decide) (fun _ => ?_) (fun hn => absurd hc3 hn)
        refine xs_iconst (v := 0) d47_25 (by decide) ?_
        obtain eR := K0 _ (Option.some.inj hf).symm
        subst eR
        exact xe_zret d47_26 (Or.inl rfl) rt47
      · refine xs_if_eq (tgt := 25) d47_18 (by decide) (fun hp => absurd hp hc3) (fun _ => ?_)
        refine xs_iconst (v := 1) d47_21 (by decide) ?_
        refine xs_goto (tgt := 26) d47_22 (by decide) ?_
        obtain eR := K0 _ (Option.some.inj hf).symm
        subst eR
        exact xe_zret d47_26 (Or.inr rfl) rt47
noncomputable def f_State_isIn (i0 : Nat) (v1 : Int32) (h : xH) : Option Int32 := f_State_isIn_e i0 v1 h
theorem f_State_isIn_ok {g : xG} {l : Launch} {d : Nat} {i0 : Nat} {v1 : Int32} {h : xH} {r : Int32} (hD : 0 ≤ d) (hf : f_State_isIn i0 v1 h = some r) : xC g l d 47 [xr 6 (some i0), xi v1] h (some (xi r)) h :=
  xC_of2 (by decide) mx47 (Nat.le_of_ble_eq_true rfl) (f_State_isIn_e_ok hD hf (fun _ e => by rw [e]))
theorem d1_0 : decode (xcode 1) 0 = .ok (.aload_n 0, 1) := by decide +kernel
theorem d1_1 : decode (xcode 1) 1 = .ok (.iload_n 2, 1) := by decide +kernel
theorem d1_2 : decode (xcode 1) 2 = .ok (.invokevirtual 51, 3) := by decide +kernel
theorem d1_5 : decode (xcode 1) 5 = .ok (.iload_n 3, 1) := by decide +kernel
theorem d1_6 : decode (xcode 1) 6 = .ok (.if_icmp .ne 5, 3) := by decide +kernel
theorem d1_9 : decode (xcode 1) 9 = .ok (.iconst (-1), 1) := by decide +kernel
theorem d1_10 : decode (xcode 1) 10 = .ok (.ireturn, 1) := by decide +kernel
theorem d1_11 : decode (xcode 1) 11 = .ok (.iconst 0, 1) := by decide +kernel
theorem d1_12 : decode (xcode 1) 12 = .ok (.istore 4, 2) := by decide +kernel
theorem d1_14 : decode (xcode 1) 14 = .ok (.iload 4, 2) := by decide +kernel
theorem d1_16 : decode (xcode 1) 16 = .ok (.iconst 4, 1) := by decide +kernel
theorem d1_17 : decode (xcode 1) 17 = .ok (.if_icmp .ge 56, 3) := by decide +kernel
theorem d1_20 : decode (xcode 1) 20 = .ok (.aload_n 0, 1) := by decide +kernel
theorem d1_21 : decode (xcode 1) 21 = .ok (.getfield 15, 3) := by decide +kernel
theorem d1_24 : decode (xcode 1) 24 = .ok (.iload 4, 2) := by decide +kernel
theorem d1_26 : decode (xcode 1) 26 = .ok (.iaload, 1) := by decide +kernel
theorem d1_27 : decode (xcode 1) 27 = .ok (.iload_n 1, 1) := by decide +kernel
theorem d1_28 : decode (xcode 1) 28 = .ok (.if_icmp .lt 39, 3) := by decide +kernel
theorem d1_31 : decode (xcode 1) 31 = .ok (.aload_n 0, 1) := by decide +kernel
theorem d1_32 : decode (xcode 1) 32 = .ok (.getfield 15, 3) := by decide +kernel
theorem d1_35 : decode (xcode 1) 35 = .ok (.iload 4, 2) := by decide +kernel
theorem d1_37 : decode (xcode 1) 37 = .ok (.dup2, 1) := by decide +kernel
theorem d1_38 : decode (xcode 1) 38 = .ok (.iaload, 1) := by decide +kernel
theorem d1_39 : decode (xcode 1) 39 = .ok (.iload_n 1, 1) := by decide +kernel
theorem d1_40 : decode (xcode 1) 40 = .ok (.isub, 1) := by decide +kernel
theorem d1_41 : decode (xcode 1) 41 = .ok (.iastore, 1) := by decide +kernel
theorem d1_42 : decode (xcode 1) 42 = .ok (.aload_n 0, 1) := by decide +kernel
theorem d1_43 : decode (xcode 1) 43 = .ok (.iload_n 2, 1) := by decide +kernel
theorem d1_44 : decode (xcode 1) 44 = .ok (.invokevirtual 51, 3) := by decide +kernel
theorem d1_47 : decode (xcode 1) 47 = .ok (.iload_n 3, 1) := by decide +kernel
theorem d1_48 : decode (xcode 1) 48 = .ok (.iload_n 1, 1) := by decide +kernel
theorem d1_49 : decode (xcode 1) 49 = .ok (.isub, 1) := by decide +kernel
theorem d1_50 : decode (xcode 1) 50 = .ok (.if_icmp .ne 6, 3) := by decide +kernel
theorem d1_53 : decode (xcode 1) 53 = .ok (.iload 4, 2) := by decide +kernel
theorem d1_55 : decode (xcode 1) 55 = .ok (.ireturn, 1) := by decide +kernel
theorem d1_56 : decode (xcode 1) 56 = .ok (.aload_n 0, 1) := by decide +kernel
theorem d1_57 : decode (xcode 1) 57 = .ok (.getfield 15, 3) := by decide +kernel
theorem d1_60 : decode (xcode 1) 60 = .ok (.iload 4, 2) := by decide +kernel
theorem d1_62 : decode (xcode 1) 62 = .ok (.dup2, 1) := by decide +kernel
theorem d1_63 : decode (xcode 1) 63 = .ok (.iaload, 1) := by decide +kernel
theorem d1_64 : decode (xcode 1) 64 = .ok (.iload_n 1, 1) := by decide +kernel
theorem d1_65 : decode (xcode 1) 65 = .ok (.iadd, 1) := by decide +kernel
theorem d1_66 : decode (xcode 1) 66 = .ok (.iastore, 1) := by decide +kernel
theorem d1_67 : decode (xcode 1) 67 = .ok (.iinc 4 1, 3) := by decide +kernel
theorem d1_70 : decode (xcode 1) 70 = .ok (.goto (-56), 3) := by decide +kernel
theorem d1_73 : decode (xcode 1) 73 = .ok (.iconst (-1), 1) := by decide +kernel
theorem d1_74 : decode (xcode 1) 74 = .ok (.ireturn, 1) := by decide +kernel
noncomputable def f_Bearing_firstBearer_b67 (v1 : Int32) (v2 : Int32) (v3 : Int32) (v4 : Int32) (h : xH) : Option ((Int32 × xH) ⊕ (Int32 × xH)) :=
  xlet (v4 + (1 : Int32)) fun v4_8 =>
  some (Sum.inl (v4_8, h))
set_option maxHeartbeats 4000000 in
set_option maxRecDepth 100000 in
theorem f_Bearing_firstBearer_b67_ok {g : xG} {l : Launch} {d : Nat} {v1 : Int32} {v2 : Int32} {v3 : Int32} {v4 : Int32} {h : xH} {o : ((Int32 × xH) ⊕ (Int32 × xH))} {R : Option xV} {H' : xH} (hD : 2 ≤ d) (hf : f_Bearing_firstBearer_b67 v1 v2 v3 v4 h = some o) (K1 : ∀ (w4 : Int32) (h1 : xH), o = Sum.inl (w4, h1) → xEv g l d 1 14 [(0, xr 0 (some 0)), (1, xi v1), (2, xi v2), (3, xi v3), (4, xi w4)] [] h1 R H') (K0 : ∀ (a : Int32) (h1 : xH), o = Sum.inr ((a, h1)) → R = some (xi a) ∧ H' = h1) : xEv g l d 1 67 [(0, xr 0 (some 0)), (1, xi v1), (2, xi v2), (3, xi v3), (4, xi v4)] [] h R H' := by
  unfold f_Bearing_firstBearer_b67 at hf
  obtain ⟨v4_8, ev4_8, hf⟩ := lk_let hf
  refine xe_iinc (v := v4_8) (b := 1) (ls2 := [(0, xr 0 (some 0)), (1, xi v1), (2, xi v2), (3, xi v3), (4, xi v4_8)]) d1_67 mx1 (by decide) rfl (by decide) ev4_8 rfl ?_
  refine xs_goto (tgt := 14) d1_70 (by decide) ?_
  exact K1 _ _ (Option.some.inj hf).symm
noncomputable def f_Bearing_firstBearer_s14 (v1 : Int32) (v2 : Int32) (v3 : Int32) (v4 : Int32) (h : xH) : Option ((Int32 × xH) ⊕ (Int32 × xH)) :=
  if (4 : Int32) ≤ v4 then (
  some (Sum.inr (((-1 : Int32), h)))) else (
  if xib v4 4 then (
  if (h.2.2.2.1 14 0 (v4).toNatClampNeg) < v1 then (
  f_Bearing_firstBearer_b67 v1 v2 v3 v4 h) else (
  if xib v4 4 then (
  if xib v4 4 then (
  xlet (xsA h 14 0 (upd (h.2.2.2.1 14 0) (v4).toNatClampNeg ((h.2.2.2.1 14 0 (v4).toNatClampNeg) - v1))) fun h11 =>
  (f_Bearing_mostOf v2 h11).bind fun q14 =>
  if q14.1 = (v3 - v1) then (
  some (Sum.inr ((v4, q14.2)))) else (
  if xib v4 4 then (
  if xib v4 4 then (
  xlet (xsA q14.2 14 0 (upd (q14.2.2.2.2.1 14 0) (v4).toNatClampNeg ((q14.2.2.2.2.1 14 0 (v4).toNatClampNeg) + v1))) fun h18 =>
  f_Bearing_firstBearer_b67 v1 v2 v3 v4 h18) else none) else none)) else none) else none)) else none)
set_option maxHeartbeats 4000000 in
set_option maxRecDepth 100000 in
theorem f_Bearing_firstBearer_s14_ok {g : xG} {l : Launch} {d : Nat} {v1 : Int32} {v2 : Int32} {v3 : Int32} {v4 : Int32} {h : xH} {o : ((Int32 × xH) ⊕ (Int32 × xH))} {R : Option xV} {H' : xH} (hD : 2 ≤ d) (hf : f_Bearing_firstBearer_s14 v1 v2 v3 v4 h = some o) (K1 : ∀ (w4 : Int32) (h1 : xH), o = Sum.inl (w4, h1) → xEv g l d 1 14 [(0, xr 0 (some 0)), (1, xi v1), (2, xi v2), (3, xi v3), (4, xi w4)] [] h1 R H') (K0 : ∀ (a : Int32) (h1 : xH), o = Sum.inr ((a, h1)) → R = some (xi a) ∧ H' = h1) : xEv g l d 1 14 [(0, xr 0 (some 0)), (1, xi v1), (2, xi v2), (3, xi v3), (4, xi v4)] [] h R H' := by
  unfold f_Bearing_firstBearer_s14 at hf
  refine xs_iload d1_14 rfl ?_
  refine xs_iconst (v := 4) d1_16 (by decide) ?_
  rcases lk_if hf with ⟨hc5, hf⟩ | ⟨hc5, hf⟩
  · refine xs_icmp_ge (tgt := 73) d1_17 (by decide) (fun _ => ?_) (fun hn => absurd hc5 hn)
    refine xs_iconst (v := -1) d1_73 (by decide) ?_
    obtain ⟨eR, eH⟩ := K0 _ _ (Option.some.inj hf).symm
    subst eR; subst eH
    exact xs_iret d1_74 rt1
  · refine xs_icmp_ge (tgt := 73) d1_17 (by decide) (fun hp => absurd hp hc5) (fun _ => ?_)
    refine xs_aload_n d1_20 rfl ?_
    refine xe_getc (j := 0) d1_21 ky1 fl144 fk0_2 rfl ?_
    refine xs_iload d1_24 rfl ?_
    obtain ⟨hin6, hf⟩ := lk_g hf
    refine xe_iald d1_26 (by decide) ak14 hin6 ?_
    refine xs_iload_n d1_27 rfl ?_
    rcases lk_if hf with ⟨hc7, hf⟩ | ⟨hc7, hf⟩
    · refine xs_icmp_lt (tgt := 67) d1_28 (by decide) (fun _ => ?_) (fun hn => absurd hc7 hn)
      exact f_Bearing_firstBearer_b67_ok hD hf K1 K0
    · refine xs_icmp_lt (tgt := 67) d1_28 (by decide) (fun hp => absurd hp hc7) (fun _ => ?_)
      refine xs_aload_n d1_31 rfl ?_
      refine xe_getc (j := 0) d1_32 ky1 fl144 fk0_2 rfl ?_
      refine xs_iload d1_35 rfl ?_
      refine xs_dup2 d1_37 rfl rfl ?_
      obtain ⟨hin9, hf⟩ := lk_g hf
      refine xe_iald d1_38 (by decide) ak14 hin9 ?_
      refine xs_iload_n d1_39 rfl ?_
      refine xs_isub d1_40 ?_
      obtain ⟨hin10, hf⟩ := lk_g hf
      obtain ⟨h11, eh11, hf⟩ := lk_let hf
      refine xe_iast d1_41 (by decide) ak14 hin10  eh11 ?_
      refine xs_aload_n d1_42 rfl ?_
      refine xs_iload_n d1_43 rfl ?_
      obtain ⟨q14, hc13, hf⟩ := lk_b hf
      refine xe_callv1 (as := [xi v2]) (st := []) (h2 := q14.2) (d2 := d - 1) d1_44 ky1 ml139 st2 (by decide) cn2 rfl na2 (Nat.le_of_ble_eq_true rfl) (by omega) (f_Bearing_mostOf_ok (by omega) hc13) ?_
      refine xs_iload_n d1_47 rfl ?_
      refine xs_iload_n d1_48 rfl ?_
      refine xs_isub d1_49 ?_
      rcases lk_if hf with ⟨hc15, hf⟩ | ⟨hc15, hf⟩
      · refine xs_icmp_ne (tgt := 56) d1_50 (by decide) (fun _ => ?_) (fun hn => absurd hc15 hn)
        refine xs_iload d1_53 rfl ?_
        obtain ⟨eR, eH⟩ := K0 _ _ (Option.some.inj hf).symm
        subst eR; subst eH
        exact xs_iret d1_55 rt1
      · refine xs_icmp_ne (tgt := 56) d1_50 (by decide) (fun hp => absurd hp hc15) (fun _ => ?_)
        refine xs_aload_n d1_56 rfl ?_
        refine xe_getc (j := 0) d1_57 ky1 fl144 fk0_2 rfl ?_
        refine xs_iload d1_60 rfl ?_
        refine xs_dup2 d1_62 rfl rfl ?_
        obtain ⟨hin16, hf⟩ := lk_g hf
        refine xe_iald d1_63 (by decide) ak14 hin16 ?_
        refine xs_iload_n d1_64 rfl ?_
        refine xs_iadd d1_65 ?_
        obtain ⟨hin17, hf⟩ := lk_g hf
        obtain ⟨h18, eh18, hf⟩ := lk_let hf
        refine xe_iast d1_66 (by decide) ak14 hin17  eh18 ?_
        exact f_Bearing_firstBearer_b67_ok hD hf K1 K0
noncomputable def f_Bearing_firstBearer_l14 (v1 : Int32) (v2 : Int32) (v3 : Int32) (v4 : Int32) (h : xH) : Option (Int32 × xH) :=
  whl (fun s => f_Bearing_firstBearer_s14 v1 v2 v3 s.1 s.2) (v4, h)
theorem f_Bearing_firstBearer_l14_ok {g : xG} {l : Launch} {d : Nat} {v1 : Int32} {v2 : Int32} {v3 : Int32} {v4 : Int32} {h : xH} {o : (Int32 × xH)} {R : Option xV} {H' : xH} (hD : 2 ≤ d) (hf : f_Bearing_firstBearer_l14 v1 v2 v3 v4 h = some o) (K0 : ∀ (a : Int32) (h1 : xH), o = (a, h1) → R = some (xi a) ∧ H' = h1) : xEv g l d 1 14 [(0, xr 0 (some 0)), (1, xi v1), (2, xi v2), (3, xi v3), (4, xi v4)] [] h R H' := by
  obtain ⟨n, hn⟩ := whl_iff.mp hf
  clear hf
  induction n generalizing v4 h with
  | zero => cases hn
  | succ n ih =>
    obtain ⟨o2, hs, hn⟩ := lk_b (show (f_Bearing_firstBearer_s14 v1 v2 v3 v4 h).bind (fun o => Sum.elim (itn _ n) some o) = some o from hn)
    exact f_Bearing_firstBearer_s14_ok hD hs (fun u0 u1 e => ih (by rw [e] at hn; exact hn)) (fun u0 u1 e => K0 u0 u1 (by rw [e] at hn; exact (Option.some.inj hn).symm))
noncomputable def f_Bearing_firstBearer_e (v1 : Int32) (v2 : Int32) (v3 : Int32) (h : xH) : Option (Int32 × xH) :=
  (f_Bearing_mostOf v2 h).bind fun q3 =>
  if q3.1 = v3 then (
  some (((-1 : Int32), q3.2))) else (
  f_Bearing_firstBearer_l14 v1 v2 v3 (0 : Int32) q3.2)
set_option maxHeartbeats 4000000 in
set_option maxRecDepth 100000 in
theorem f_Bearing_firstBearer_e_ok {g : xG} {l : Launch} {d : Nat} {v1 : Int32} {v2 : Int32} {v3 : Int32} {h : xH} {o : (Int32 × xH)} {R : Option xV} {H' : xH} (hD : 2 ≤ d) (hf : f_Bearing_firstBearer_e v1 v2 v3 h = some o) (K0 : ∀ (a : Int32) (h1 : xH), o = (a, h1) → R = some (xi a) ∧ H' = h1) : xEv g l d 1 0 [(0, xr 0 (some 0)), (1, xi v1), (2, xi v2), (3, xi v3)] [] h R H' := by
  unfold f_Bearing_firstBearer_e at hf
  refine xs_aload_n d1_0 rfl ?_
  refine xs_iload_n d1_1 rfl ?_
  obtain ⟨q3, hc2, hf⟩ := lk_b hf
  refine xe_callv1 (as := [xi v2]) (st := []) (h2 := q3.2) (d2 := d - 1) d1_2 ky1 ml139 st2 (by decide) cn2 rfl na2 (Nat.le_of_ble_eq_true rfl) (by omega) (f_Bearing_mostOf_ok (by omega) hc2) ?_
  refine xs_iload_n d1_5 rfl ?_
  rcases lk_if hf with ⟨hc4, hf⟩ | ⟨hc4, hf⟩
  · refine xs_icmp_ne (tgt := 11) d1_6 (by decide) (fun _ => ?_) (fun hn => absurd hc4 hn)
    refine xs_iconst (v := -1) d1_9 (by decide) ?_
    obtain ⟨eR, eH⟩ := K0 _ _ (Option.some.inj hf).symm
    subst eR; subst eH
    exact xs_iret d1_10 rt1
  · refine xs_icmp_ne (tgt := 11) d1_6 (by decide) (fun hp => absurd hp hc4) (fun _ => ?_)
    refine xs_iconst (v := 0) d1_11 (by decide) ?_
    refine xe_istore (v := (0 : Int32)) (ls2 := [(0, xr 0 (some 0)), (1, xi v1), (2, xi v2), (3, xi v3), (4, xi (0 : Int32))]) d1_12 mx1 (by decide) rfl rfl ?_
    exact f_Bearing_firstBearer_l14_ok hD hf K0
noncomputable def f_Bearing_firstBearer (v1 : Int32) (v2 : Int32) (v3 : Int32) (h : xH) : Option (Int32 × xH) := f_Bearing_firstBearer_e v1 v2 v3 h
theorem f_Bearing_firstBearer_ok {g : xG} {l : Launch} {d : Nat} {v1 : Int32} {v2 : Int32} {v3 : Int32} {h : xH} {r : Int32} {h1 : xH} (hD : 2 ≤ d) (hf : f_Bearing_firstBearer v1 v2 v3 h = some (r, h1)) : xC g l d 1 [xr 0 (some 0), xi v1, xi v2, xi v3] h (some (xi r)) h1 :=
  xC_of2 (by decide) mx1 (Nat.le_of_ble_eq_true rfl) (f_Bearing_firstBearer_e_ok hD hf (fun _ _ e => by cases e; exact ⟨rfl, rfl⟩))
theorem d0_0 : decode (xcode 0) 0 = .ok (.aload_n 2, 1) := by decide +kernel
theorem d0_1 : decode (xcode 0) 1 = .ok (.getfield 25, 3) := by decide +kernel
theorem d0_4 : decode (xcode 0) 4 = .ok (.aload_n 0, 1) := by decide +kernel
theorem d0_5 : decode (xcode 0) 5 = .ok (.getfield 18, 3) := by decide +kernel
theorem d0_8 : decode (xcode 0) 8 = .ok (.invokestatic 30, 3) := by decide +kernel
theorem d0_11 : decode (xcode 0) 11 = .ok (.aload_n 1, 1) := by decide +kernel
theorem d0_12 : decode (xcode 0) 12 = .ok (.getfield 36, 3) := by decide +kernel
theorem d0_15 : decode (xcode 0) 15 = .ok (.iconst 0, 1) := by decide +kernel
theorem d0_16 : decode (xcode 0) 16 = .ok (.aload_n 0, 1) := by decide +kernel
theorem d0_17 : decode (xcode 0) 17 = .ok (.getfield 15, 3) := by decide +kernel
theorem d0_20 : decode (xcode 0) 20 = .ok (.iconst 0, 1) := by decide +kernel
theorem d0_21 : decode (xcode 0) 21 = .ok (.iconst 4, 1) := by decide +kernel
theorem d0_22 : decode (xcode 0) 22 = .ok (.invokestatic 41, 3) := by decide +kernel
theorem d0_25 : decode (xcode 0) 25 = .ok (.aload_n 2, 1) := by decide +kernel
theorem d0_26 : decode (xcode 0) 26 = .ok (.getfield 47, 3) := by decide +kernel
theorem d0_29 : decode (xcode 0) 29 = .ok (.istore_n 3, 1) := by decide +kernel
theorem d0_30 : decode (xcode 0) 30 = .ok (.aload_n 0, 1) := by decide +kernel
theorem d0_31 : decode (xcode 0) 31 = .ok (.iload_n 3, 1) := by decide +kernel
theorem d0_32 : decode (xcode 0) 32 = .ok (.invokevirtual 51, 3) := by decide +kernel
theorem d0_35 : decode (xcode 0) 35 = .ok (.istore 4, 2) := by decide +kernel
theorem d0_37 : decode (xcode 0) 37 = .ok (.aload_n 0, 1) := by decide +kernel
theorem d0_38 : decode (xcode 0) 38 = .ok (.iload 4, 2) := by decide +kernel
theorem d0_40 : decode (xcode 0) 40 = .ok (.putfield 55, 3) := by decide +kernel
theorem d0_43 : decode (xcode 0) 43 = .ok (.iconst 0, 1) := by decide +kernel
theorem d0_44 : decode (xcode 0) 44 = .ok (.istore 5, 2) := by decide +kernel
theorem d0_46 : decode (xcode 0) 46 = .ok (.iload 5, 2) := by decide +kernel
theorem d0_48 : decode (xcode 0) 48 = .ok (.bipush 8, 2) := by decide +kernel
theorem d0_50 : decode (xcode 0) 50 = .ok (.if_icmp .ge 79, 3) := by decide +kernel
theorem d0_53 : decode (xcode 0) 53 = .ok (.aload_n 0, 1) := by decide +kernel
theorem d0_54 : decode (xcode 0) 54 = .ok (.getfield 9, 3) := by decide +kernel
theorem d0_57 : decode (xcode 0) 57 = .ok (.iload 5, 2) := by decide +kernel
theorem d0_59 : decode (xcode 0) 59 = .ok (.iconst (-1), 1) := by decide +kernel
theorem d0_60 : decode (xcode 0) 60 = .ok (.iastore, 1) := by decide +kernel
theorem d0_61 : decode (xcode 0) 61 = .ok (.aload_n 2, 1) := by decide +kernel
theorem d0_62 : decode (xcode 0) 62 = .ok (.iload 5, 2) := by decide +kernel
theorem d0_64 : decode (xcode 0) 64 = .ok (.invokevirtual 58, 3) := by decide +kernel
theorem d0_67 : decode (xcode 0) 67 = .ok (.ifCond .eq 56, 3) := by decide +kernel
theorem d0_70 : decode (xcode 0) 70 = .ok (.iload_n 3, 1) := by decide +kernel
theorem d0_71 : decode (xcode 0) 71 = .ok (.iconst 1, 1) := by decide +kernel
theorem d0_72 : decode (xcode 0) 72 = .ok (.iload 5, 2) := by decide +kernel
theorem d0_74 : decode (xcode 0) 74 = .ok (.ishl, 1) := by decide +kernel
theorem d0_75 : decode (xcode 0) 75 = .ok (.iconst (-1), 1) := by decide +kernel
theorem d0_76 : decode (xcode 0) 76 = .ok (.ixor, 1) := by decide +kernel
theorem d0_77 : decode (xcode 0) 77 = .ok (.iand, 1) := by decide +kernel
theorem d0_78 : decode (xcode 0) 78 = .ok (.istore_n 3, 1) := by decide +kernel
theorem d0_79 : decode (xcode 0) 79 = .ok (.aload_n 0, 1) := by decide +kernel
theorem d0_80 : decode (xcode 0) 80 = .ok (.getfield 9, 3) := by decide +kernel
theorem d0_83 : decode (xcode 0) 83 = .ok (.iload 5, 2) := by decide +kernel
theorem d0_85 : decode (xcode 0) 85 = .ok (.aload_n 0, 1) := by decide +kernel
theorem d0_86 : decode (xcode 0) 86 = .ok (.aload_n 2, 1) := by decide +kernel
theorem d0_87 : decode (xcode 0) 87 = .ok (.getfield 25, 3) := by decide +kernel
theorem d0_90 : decode (xcode 0) 90 = .ok (.iload 5, 2) := by decide +kernel
theorem d0_92 : decode (xcode 0) 92 = .ok (.iaload, 1) := by decide +kernel
theorem d0_93 : decode (xcode 0) 93 = .ok (.iload_n 3, 1) := by decide +kernel
theorem d0_94 : decode (xcode 0) 94 = .ok (.iload 4, 2) := by decide +kernel
theorem d0_96 : decode (xcode 0) 96 = .ok (.invokevirtual 62, 3) := by decide +kernel
theorem d0_99 : decode (xcode 0) 99 = .ok (.iastore, 1) := by decide +kernel
theorem d0_100 : decode (xcode 0) 100 = .ok (.aload_n 0, 1) := by decide +kernel
theorem d0_101 : decode (xcode 0) 101 = .ok (.getfield 9, 3) := by decide +kernel
theorem d0_104 : decode (xcode 0) 104 = .ok (.iload 5, 2) := by decide +kernel
theorem d0_106 : decode (xcode 0) 106 = .ok (.iaload, 1) := by decide +kernel
theorem d0_107 : decode (xcode 0) 107 = .ok (.iconst (-1), 1) := by decide +kernel
theorem d0_108 : decode (xcode 0) 108 = .ok (.if_icmp .eq 15, 3) := by decide +kernel
theorem d0_111 : decode (xcode 0) 111 = .ok (.iload 4, 2) := by decide +kernel
theorem d0_113 : decode (xcode 0) 113 = .ok (.aload_n 2, 1) := by decide +kernel
theorem d0_114 : decode (xcode 0) 114 = .ok (.getfield 25, 3) := by decide +kernel
theorem d0_117 : decode (xcode 0) 117 = .ok (.iload 5, 2) := by decide +kernel
theorem d0_119 : decode (xcode 0) 119 = .ok (.iaload, 1) := by decide +kernel
theorem d0_120 : decode (xcode 0) 120 = .ok (.isub, 1) := by decide +kernel
theorem d0_121 : decode (xcode 0) 121 = .ok (.istore 4, 2) := by decide +kernel
theorem d0_123 : decode (xcode 0) 123 = .ok (.iinc 5 1, 3) := by decide +kernel
theorem d0_126 : decode (xcode 0) 126 = .ok (.goto (-80), 3) := by decide +kernel
theorem d0_129 : decode (xcode 0) 129 = .ok (.return_, 1) := by decide +kernel
noncomputable def f_Bearing_part_b123 (i1 : Nat) (i2 : Nat) (v3 : Int32) (v4 : Int32) (v5 : Int32) (h : xH) : Option ((Int32 × Int32 × Int32 × xH) ⊕ xH) :=
  xlet (v5 + (1 : Int32)) fun v5_17 =>
  some (Sum.inl (v3, v4, v5_17, h))
set_option maxHeartbeats 4000000 in
set_option maxRecDepth 100000 in
theorem f_Bearing_part_b123_ok {g : xG} {l : Launch} {d : Nat} {i1 : Nat} {i2 : Nat} {v3 : Int32} {v4 : Int32} {v5 : Int32} {h : xH} {o : ((Int32 × Int32 × Int32 × xH) ⊕ xH)} {R : Option xV} {H' : xH} (hD : 3 ≤ d) (hf : f_Bearing_part_b123 i1 i2 v3 v4 v5 h = some o) (K1 : ∀ (w3 : Int32) (w4 : Int32) (w5 : Int32) (h1 : xH), o = Sum.inl (w3, w4, w5, h1) → xEv g l d 0 46 [(0, xr 0 (some 0)), (2, xr 6 (some i2)), (3, xi w3), (4, xi w4), (5, xi w5)] [] h1 R H') (K0 : ∀ (h1 : xH), o = Sum.inr (h1) → R = none ∧ H' = h1) : xEv g l d 0 123 [(0, xr 0 (some 0)), (2, xr 6 (some i2)), (3, xi v3), (4, xi v4), (5, xi v5)] [] h R H' := by
  unfold f_Bearing_part_b123 at hf
  obtain ⟨v5_17, ev5_17, hf⟩ := lk_let hf
  refine xe_iinc (v := v5_17) (b := 1) (ls2 := [(0, xr 0 (some 0)), (2, xr 6 (some i2)), (3, xi v3), (4, xi v4), (5, xi v5_17)]) d0_123 mx0 (by decide) rfl (by decide) ev5_17 rfl ?_
  refine xs_goto (tgt := 46) d0_126 (by decide) ?_
  exact K1 _ _ _ _ (Option.some.inj hf).symm
noncomputable def f_Bearing_part_s46 (i1 : Nat) (i2 : Nat) (v3 : Int32) (v4 : Int32) (v5 : Int32) (h : xH) : Option ((Int32 × Int32 × Int32 × xH) ⊕ xH) :=
  if (8 : Int32) ≤ v5 then (
  some (Sum.inr (h))) else (
  if xib v5 8 then (
  xlet (xsA h 13 0 (upd (h.2.2.2.1 13 0) (v5).toNatClampNeg (-1 : Int32))) fun h13 =>
  (f_State_isIn i2 v5 h13).bind fun r14 =>
  if r14 = (0 : Int32) then (
  f_Bearing_part_b123 i1 i2 v3 v4 v5 h13) else (
  xlet (v3 &&& (((1 : Int32) <<< (v5 &&& 31)) ^^^ (-1 : Int32))) fun v3_18 =>
  if xib v5 8 then (
  (f_Bearing_firstBearer (h13.2.2.2.1 31 i2 (v5).toNatClampNeg) v3_18 v4 h13).bind fun q22 =>
  if xib v5 8 then (
  xlet (xsA q22.2 13 0 (upd (q22.2.2.2.2.1 13 0) (v5).toNatClampNeg q22.1)) fun h24 =>
  if xib v5 8 then (
  if (h24.2.2.2.1 13 0 (v5).toNatClampNeg) = (-1 : Int32) then (
  f_Bearing_part_b123 i1 i2 v3_18 v4 v5 h24) else (
  if xib v5 8 then (
  xlet (v4 - (h24.2.2.2.1 31 i2 (v5).toNatClampNeg)) fun v4_28 =>
  f_Bearing_part_b123 i1 i2 v3_18 v4_28 v5 h24) else none)) else none) else none) else none)) else none)
set_option maxHeartbeats 4000000 in
set_option maxRecDepth 100000 in
theorem f_Bearing_part_s46_ok {g : xG} {l : Launch} {d : Nat} {i1 : Nat} {i2 : Nat} {v3 : Int32} {v4 : Int32} {v5 : Int32} {h : xH} {o : ((Int32 × Int32 × Int32 × xH) ⊕ xH)} {R : Option xV} {H' : xH} (hD : 3 ≤ d) (hf : f_Bearing_part_s46 i1 i2 v3 v4 v5 h = some o) (K1 : ∀ (w3 : Int32) (w4 : Int32) (w5 : Int32) (h1 : xH), o = Sum.inl (w3, w4, w5, h1) → xEv g l d 0 46 [(0, xr 0 (some 0)), (2, xr 6 (some i2)), (3, xi w3), (4, xi w4), (5, xi w5)] [] h1 R H') (K0 : ∀ (h1 : xH), o = Sum.inr (h1) → R = none ∧ H' = h1) : xEv g l d 0 46 [(0, xr 0 (some 0)), (2, xr 6 (some i2)), (3, xi v3), (4, xi v4), (5, xi v5)] [] h R H' := by
  unfold f_Bearing_part_s46 at hf
  refine xs_iload d0_46 rfl ?_
  refine xs_bipush (v := 8) d0_48 (by decide) ?_
  rcases lk_if hf with ⟨hc11, hf⟩ | ⟨hc11, hf⟩
  · refine xs_icmp_ge (tgt := 129) d0_50 (by decide) (fun _ => ?_) (fun hn => absurd hc11 hn)
    obtain ⟨eR, eH⟩ := K0 _ (Option.some.inj hf).symm
    subst eR; subst eH
    exact xs_vret d0_129 rt0
  · refine xs_icmp_ge (tgt := 129) d0_50 (by decide) (fun hp => absurd hp hc11) (fun _ => ?_)
    refine xs_aload_n d0_53 rfl ?_
    refine xe_getc (j := 0) d0_54 ky0 fl142 fk0_1 rfl ?_
    refine xs_iload d0_57 rfl ?_
    refine xs_iconst (v := -1) d0_59 (by decide) ?_
    obtain ⟨hin12, hf⟩ := lk_g hf
    obtain ⟨h13, eh13, hf⟩ := lk_let hf
    refine xe_iast d0_60 (by decide) ak13 hin12  eh13 ?_
    refine xs_aload_n d0_61 rfl ?_
    refine xs_iload d0_62 rfl ?_
    obtain ⟨r14, hc15, hf⟩ := lk_b hf
    refine xe_callv1 (as := [xi v5]) (st := []) (h2 := h13) (d2 := d - 1) d0_64 ky0 ml142 st47 (by decide) cn47 rfl na47 (Nat.le_of_ble_eq_true rfl) (by omega) (f_State_isIn_ok (by omega) hc15) ?_
    rcases lk_if hf with ⟨hc16, hf⟩ | ⟨hc16, hf⟩
    · refine xs_if_eq (tgt := 123) d0_67 (by decide) (fun _ => ?_) (fun hn => absurd hc16 hn)
      exact f_Bearing_part_b123_ok hD hf K1 K0
    · refine xs_if_eq (tgt := 123) d0_67 (by decide) (fun hp => absurd hp hc16) (fun _ => ?_)
      refine xs_iload_n d0_70 rfl ?_
      refine xs_iconst (v := 1) d0_71 (by decide) ?_
      refine xs_iload d0_72 rfl ?_
      refine xs_ishl d0_74 ?_
      refine xs_iconst (v := -1) d0_75 (by decide) ?_
      refine xs_ixor d0_76 ?_
      refine xs_iand d0_77 ?_
      obtain ⟨v3_18, ev3_18, hf⟩ := lk_let hf
      refine xe_istore_n (v := v3_18) (ls2 := [(0, xr 0 (some 0)), (2, xr 6 (some i2)), (3, xi v3_18), (4, xi v4), (5, xi v5)]) d0_78 mx0 (by decide) ev3_18 rfl ?_
      refine xs_aload_n d0_79 rfl ?_
      refine xe_getc (j := 0) d0_80 ky0 fl142 fk0_1 rfl ?_
      refine xs_iload d0_83 rfl ?_
      refine xs_aload_n d0_85 rfl ?_
      refine xs_aload_n d0_86 rfl ?_
      refine xe_getc (j := i2) d0_87 ky0 fl88 fk6_6 (by omega) ?_
      refine xs_iload d0_90 rfl ?_
      obtain ⟨hin19, hf⟩ := lk_g hf
      refine xe_iald d0_92 (by decide) ak31 hin19 ?_
      refine xs_iload_n d0_93 rfl ?_
      refine xs_iload d0_94 rfl ?_
      obtain ⟨q22, hc21, hf⟩ := lk_b hf
      refine xe_callv1 (as := [xi (h13.2.2.2.1 31 i2 (v5).toNatClampNeg), xi v3_18, xi v4]) (st := [xi v5, xr 13 (some 0)]) (h2 := q22.2) (d2 := d - 1) d0_96 ky0 ml143 st1 (by decide) cn1 rfl na1 (Nat.le_of_ble_eq_true rfl) (by omega) (f_Bearing_firstBearer_ok (by omega) hc21) ?_
      obtain ⟨hin23, hf⟩ := lk_g hf
      obtain ⟨h24, eh24, hf⟩ := lk_let hf
      refine xe_iast d0_99 (by decide) ak13 hin23  eh24 ?_
      refine xs_aload_n d0_100 rfl ?_
      refine xe_getc (j := 0) d0_101 ky0 fl142 fk0_1 rfl ?_
      refine xs_iload d0_104 rfl ?_
      obtain ⟨hin25, hf⟩ := lk_g hf
      refine xe_iald d0_106 (by decide) ak13 hin25 ?_
      refine xs_iconst (v := -1) d0_107 (by decide) ?_
      rcases lk_if hf with ⟨hc26, hf⟩ | ⟨hc26, hf⟩
      · refine xs_icmp_eq (tgt := 123) d0_108 (by decide) (fun _ => ?_) (fun hn => absurd hc26 hn)
        exact f_Bearing_part_b123_ok hD hf K1 K0
      · refine xs_icmp_eq (tgt := 123) d0_108 (by decide) (fun hp => absurd hp hc26) (fun _ => ?_)
        refine xs_iload d0_111 rfl ?_
        refine xs_aload_n d0_113 rfl ?_
        refine xe_getc (j := i2) d0_114 ky0 fl88 fk6_6 (by omega) ?_
        refine xs_iload d0_117 rfl ?_
        obtain ⟨hin27, hf⟩ := lk_g hf
        refine xe_iald d0_119 (by decide) ak31 hin27 ?_
        refine xs_isub d0_120 ?_
        obtain ⟨v4_28, ev4_28, hf⟩ := lk_let hf
        refine xe_istore (v := v4_28) (ls2 := [(0, xr 0 (some 0)), (2, xr 6 (some i2)), (3, xi v3_18), (4, xi v4_28), (5, xi v5)]) d0_121 mx0 (by decide) ev4_28 rfl ?_
        exact f_Bearing_part_b123_ok hD hf K1 K0
noncomputable def f_Bearing_part_l46 (i1 : Nat) (i2 : Nat) (v3 : Int32) (v4 : Int32) (v5 : Int32) (h : xH) : Option xH :=
  whl (fun s => f_Bearing_part_s46 i1 i2 s.1 s.2.1 s.2.2.1 s.2.2.2) (v3, v4, v5, h)
theorem f_Bearing_part_l46_ok {g : xG} {l : Launch} {d : Nat} {i1 : Nat} {i2 : Nat} {v3 : Int32} {v4 : Int32} {v5 : Int32} {h : xH} {o : xH} {R : Option xV} {H' : xH} (hD : 3 ≤ d) (hf : f_Bearing_part_l46 i1 i2 v3 v4 v5 h = some o) (K0 : ∀ (h1 : xH), o = h1 → R = none ∧ H' = h1) : xEv g l d 0 46 [(0, xr 0 (some 0)), (2, xr 6 (some i2)), (3, xi v3), (4, xi v4), (5, xi v5)] [] h R H' := by
  obtain ⟨n, hn⟩ := whl_iff.mp hf
  clear hf
  induction n generalizing v3 v4 v5 h with
  | zero => cases hn
  | succ n ih =>
    obtain ⟨o2, hs, hn⟩ := lk_b (show (f_Bearing_part_s46 i1 i2 v3 v4 v5 h).bind (fun o => Sum.elim (itn _ n) some o) = some o from hn)
    exact f_Bearing_part_s46_ok hD hs (fun u0 u1 u2 u3 e => ih (by rw [e] at hn; exact hn)) (fun u0 e => K0 u0 (by rw [e] at hn; exact (Option.some.inj hn).symm))
noncomputable def f_Bearing_part_e (i1 : Nat) (i2 : Nat) (h : xH) : Option xH :=
  (f_Sets_addUp_31_15 i2 h).bind fun h3 =>
  if ¬ (0 : Int32) < 0 ∧ ¬ (0 : Int32) < 0 ∧ ¬ (4 : Int32) < 0 ∧ ((0 : Int32)).toNatClampNeg + ((4 : Int32)).toNatClampNeg ≤ 4 ∧ ((0 : Int32)).toNatClampNeg + ((4 : Int32)).toNatClampNeg ≤ 4 then (
  xlet (xsA h3 14 0 (va_cpy (h3.2.2.2.1 41 i1) (h3.2.2.2.1 14 0) ((0 : Int32)).toNatClampNeg ((0 : Int32)).toNatClampNeg ((4 : Int32)).toNatClampNeg)) fun h5 =>
  xlet (h5.1 6 2 i2) fun v3_6 =>
  (f_Bearing_mostOf v3_6 h5).bind fun q9 =>
  xlet (xsI q9.2 0 0 0 q9.1) fun h10 =>
  f_Bearing_part_l46 i1 i2 v3_6 q9.1 (0 : Int32) h10) else none
set_option maxHeartbeats 4000000 in
set_option maxRecDepth 100000 in
theorem f_Bearing_part_e_ok {g : xG} {l : Launch} {d : Nat} {i1 : Nat} {i2 : Nat} {h : xH} {o : xH} {R : Option xV} {H' : xH} (hD : 3 ≤ d) (hf : f_Bearing_part_e i1 i2 h = some o) (K0 : ∀ (h1 : xH), o = h1 → R = none ∧ H' = h1) : xEv g l d 0 0 [(0, xr 0 (some 0)), (1, xr 8 (some i1)), (2, xr 6 (some i2))] [] h R H' := by
  unfold f_Bearing_part_e at hf
  refine xs_aload_n d0_0 rfl ?_
  refine xe_getc (j := i2) d0_1 ky0 fl88 fk6_6 (by omega) ?_
  refine xs_aload_n d0_4 rfl ?_
  refine xe_getc (j := 0) d0_5 ky0 fl145 fk0_3 rfl ?_
  obtain ⟨h3, hc2, hf⟩ := lk_b hf
  refine xe_calls0 (as := [xr 31 (some i2), xr 15 (some 0)]) (st := []) (h2 := h3) (d2 := d - 1) d0_8 ky0 ml138 st29 rfl na29 (Nat.le_of_ble_eq_true rfl) (by omega) (f_Sets_addUp_31_15_ok (by omega) hc2) ?_
  refine xs_aload_n d0_11 rfl ?_
  refine xe_getc (j := i1) d0_12 ky0 fl52 fk8_9 (by omega) ?_
  refine xs_iconst (v := 0) d0_15 (by decide) ?_
  refine xs_aload_n d0_16 rfl ?_
  refine xe_getc (j := 0) d0_17 ky0 fl144 fk0_2 rfl ?_
  refine xs_iconst (v := 0) d0_20 (by decide) ?_
  refine xs_iconst (v := 4) d0_21 (by decide) ?_
  obtain ⟨hin4, hf⟩ := lk_g hf
  obtain ⟨h5, eh5, hf⟩ := lk_let hf
  refine xe_copy d0_22 ky0 cp0_41 cpw (by decide) ak41 (by decide) ak14 hin4 (Nat.le_of_ble_eq_true rfl) (by omega) eh5 ?_
  refine xs_aload_n d0_25 rfl ?_
  refine xe_geti d0_26 ky0 fl75 fk6_2 ?_
  obtain ⟨v3_6, ev3_6, hf⟩ := lk_let hf
  refine xe_istore_n (v := v3_6) (ls2 := [(0, xr 0 (some 0)), (1, xr 8 (some i1)), (2, xr 6 (some i2)), (3, xi v3_6)]) d0_29 mx0 (by decide) ev3_6 rfl ?_
  refine xs_aload_n d0_30 rfl ?_
  refine xs_iload_n d0_31 rfl ?_
  obtain ⟨q9, hc8, hf⟩ := lk_b hf
  refine xe_callv1 (as := [xi v3_6]) (st := []) (h2 := q9.2) (d2 := d - 1) d0_32 ky0 ml139 st2 (by decide) cn2 rfl na2 (Nat.le_of_ble_eq_true rfl) (by omega) (f_Bearing_mostOf_ok (by omega) hc8) ?_
  refine xe_istore (v := q9.1) (ls2 := [(0, xr 0 (some 0)), (1, xr 8 (some i1)), (2, xr 6 (some i2)), (3, xi v3_6), (4, xi q9.1)]) d0_35 mx0 (by decide) rfl rfl ?_
  refine xs_aload_n d0_37 rfl ?_
  refine xs_iload d0_38 rfl ?_
  obtain ⟨h10, eh10, hf⟩ := lk_let hf
  refine xe_puti d0_40 ky0 fl140 fk0_0 ft0_0 eh10 ?_
  refine xs_iconst (v := 0) d0_43 (by decide) ?_
  refine xe_istore (v := (0 : Int32)) (ls2 := [(0, xr 0 (some 0)), (1, xr 8 (some i1)), (2, xr 6 (some i2)), (3, xi v3_6), (4, xi q9.1), (5, xi (0 : Int32))]) d0_44 mx0 (by decide) rfl rfl ?_
  refine xs_pick [0, 2, 3, 4, 5] rfl ?_
  exact f_Bearing_part_l46_ok hD hf K0
noncomputable def f_Bearing_part (i1 : Nat) (i2 : Nat) (h : xH) : Option xH := f_Bearing_part_e i1 i2 h
theorem f_Bearing_part_ok {g : xG} {l : Launch} {d : Nat} {i1 : Nat} {i2 : Nat} {h : xH} {h1 : xH} (hD : 3 ≤ d) (hf : f_Bearing_part i1 i2 h = some h1) : xC g l d 0 [xr 0 (some 0), xr 8 (some i1), xr 6 (some i2)] h none h1 :=
  xC_of2 (by decide) mx0 (Nat.le_of_ble_eq_true rfl) (f_Bearing_part_e_ok hD hf (fun _ e => ⟨rfl, e⟩))
theorem d255_0 : decode (xcode 255) 0 = .ok (.iload_n 0, 1) := by decide +kernel
theorem d255_1 : decode (xcode 255) 1 = .ok (.iload_n 0, 1) := by decide +kernel
theorem d255_2 : decode (xcode 255) 2 = .ok (.iconst 1, 1) := by decide +kernel
theorem d255_3 : decode (xcode 255) 3 = .ok (.iushr, 1) := by decide +kernel
theorem d255_4 : decode (xcode 255) 4 = .ok (.ldc_w 265, 3) := by decide +kernel
theorem d255_7 : decode (xcode 255) 7 = .ok (.iand, 1) := by decide +kernel
theorem d255_8 : decode (xcode 255) 8 = .ok (.isub, 1) := by decide +kernel
theorem d255_9 : decode (xcode 255) 9 = .ok (.istore_n 0, 1) := by decide +kernel
theorem d255_10 : decode (xcode 255) 10 = .ok (.iload_n 0, 1) := by decide +kernel
theorem d255_11 : decode (xcode 255) 11 = .ok (.ldc_w 266, 3) := by decide +kernel
theorem d255_14 : decode (xcode 255) 14 = .ok (.iand, 1) := by decide +kernel
theorem d255_15 : decode (xcode 255) 15 = .ok (.iload_n 0, 1) := by decide +kernel
theorem d255_16 : decode (xcode 255) 16 = .ok (.iconst 2, 1) := by decide +kernel
theorem d255_17 : decode (xcode 255) 17 = .ok (.iushr, 1) := by decide +kernel
theorem d255_18 : decode (xcode 255) 18 = .ok (.ldc_w 266, 3) := by decide +kernel
theorem d255_21 : decode (xcode 255) 21 = .ok (.iand, 1) := by decide +kernel
theorem d255_22 : decode (xcode 255) 22 = .ok (.iadd, 1) := by decide +kernel
theorem d255_23 : decode (xcode 255) 23 = .ok (.istore_n 0, 1) := by decide +kernel
theorem d255_24 : decode (xcode 255) 24 = .ok (.iload_n 0, 1) := by decide +kernel
theorem d255_25 : decode (xcode 255) 25 = .ok (.iload_n 0, 1) := by decide +kernel
theorem d255_26 : decode (xcode 255) 26 = .ok (.iconst 4, 1) := by decide +kernel
theorem d255_27 : decode (xcode 255) 27 = .ok (.iushr, 1) := by decide +kernel
theorem d255_28 : decode (xcode 255) 28 = .ok (.iadd, 1) := by decide +kernel
theorem d255_29 : decode (xcode 255) 29 = .ok (.ldc_w 267, 3) := by decide +kernel
theorem d255_32 : decode (xcode 255) 32 = .ok (.iand, 1) := by decide +kernel
theorem d255_33 : decode (xcode 255) 33 = .ok (.istore_n 0, 1) := by decide +kernel
theorem d255_34 : decode (xcode 255) 34 = .ok (.iload_n 0, 1) := by decide +kernel
theorem d255_35 : decode (xcode 255) 35 = .ok (.iload_n 0, 1) := by decide +kernel
theorem d255_36 : decode (xcode 255) 36 = .ok (.bipush 8, 2) := by decide +kernel
theorem d255_38 : decode (xcode 255) 38 = .ok (.iushr, 1) := by decide +kernel
theorem d255_39 : decode (xcode 255) 39 = .ok (.iadd, 1) := by decide +kernel
theorem d255_40 : decode (xcode 255) 40 = .ok (.istore_n 0, 1) := by decide +kernel
theorem d255_41 : decode (xcode 255) 41 = .ok (.iload_n 0, 1) := by decide +kernel
theorem d255_42 : decode (xcode 255) 42 = .ok (.iload_n 0, 1) := by decide +kernel
theorem d255_43 : decode (xcode 255) 43 = .ok (.bipush 16, 2) := by decide +kernel
theorem d255_45 : decode (xcode 255) 45 = .ok (.iushr, 1) := by decide +kernel
theorem d255_46 : decode (xcode 255) 46 = .ok (.iadd, 1) := by decide +kernel
theorem d255_47 : decode (xcode 255) 47 = .ok (.istore_n 0, 1) := by decide +kernel
theorem d255_48 : decode (xcode 255) 48 = .ok (.iload_n 0, 1) := by decide +kernel
theorem d255_49 : decode (xcode 255) 49 = .ok (.bipush 63, 2) := by decide +kernel
theorem d255_51 : decode (xcode 255) 51 = .ok (.iand, 1) := by decide +kernel
theorem d255_52 : decode (xcode 255) 52 = .ok (.ireturn, 1) := by decide +kernel
noncomputable def f_Integer_bitCount_e (v0 : Int32) (h : xH) : Option Int32 :=
  xlet (v0 - ((((v0).toUInt32 >>> (((1 : Int32)).toUInt32 &&& Int32.toUInt32 31)).toInt32) &&& (1431655765 : Int32))) fun v0_1 =>
  xlet ((v0_1 &&& (858993459 : Int32)) + ((((v0_1).toUInt32 >>> (((2 : Int32)).toUInt32 &&& Int32.toUInt32 31)).toInt32) &&& (858993459 : Int32))) fun v0_2 =>
  xlet ((v0_2 + (((v0_2).toUInt32 >>> (((4 : Int32)).toUInt32 &&& Int32.toUInt32 31)).toInt32)) &&& (252645135 : Int32)) fun v0_3 =>
  xlet (v0_3 + (((v0_3).toUInt32 >>> (((8 : Int32)).toUInt32 &&& Int32.toUInt32 31)).toInt32)) fun v0_4 =>
  xlet (v0_4 + (((v0_4).toUInt32 >>> (((16 : Int32)).toUInt32 &&& Int32.toUInt32 31)).toInt32)) fun v0_5 =>
  some (v0_5 &&& (63 : Int32))
set_option maxHeartbeats 4000000 in
set_option maxRecDepth 100000 in
theorem f_Integer_bitCount_e_ok {g : xG} {l : Launch} {d : Nat} {v0 : Int32} {h : xH} {o : Int32} {R : Option xV} (hD : 0 ≤ d) (hf : f_Integer_bitCount_e v0 h = some o) (K0 : ∀ (a : Int32), o = a → R = some (xi a)) : xEv g l d 255 0 [(0, xi v0)] [] h R h := by
  unfold f_Integer_bitCount_e at hf
  refine xs_iload_n d255_0 rfl ?_
  refine xs_iload_n d255_1 rfl ?_
  refine xs_iconst (v := 1) d255_2 (by decide) ?_
  refine xs_iushr d255_3 ?_
  refine xs_ldcw (v := 1431655765) d255_4 cs13_265 ?_
  refine xs_iand d255_7 ?_
  refine xs_isub d255_8 ?_
  obtain ⟨v0_1, ev0_1, hf⟩ := lk_let hf
  refine xe_istore_n (v := v0_1) (ls2 := [(0, xi v0_1)]) d255_9 mx255 (by decide) ev0_1 rfl ?_
  refine xs_iload_n d255_10 rfl ?_
  refine xs_ldcw (v := 858993459) d255_11 cs13_266 ?_
  refine xs_iand d255_14 ?_
  refine xs_iload_n d255_15 rfl ?_
  refine xs_iconst (v := 2) d255_16 (by decide) ?_
  refine xs_iushr d255_17 ?_
  refine xs_ldcw (v := 858993459) d255_18 cs13_266 ?_
  refine xs_iand d255_21 ?_
  refine xs_iadd d255_22 ?_
  obtain ⟨v0_2, ev0_2, hf⟩ := lk_let hf
  refine xe_istore_n (v := v0_2) (ls2 := [(0, xi v0_2)]) d255_23 mx255 (by decide) ev0_2 rfl ?_
  refine xs_iload_n d255_24 rfl ?_
  refine xs_iload_n d255_25 rfl ?_
  refine xs_iconst (v := 4) d255_26 (by decide) ?_
  refine xs_iushr d255_27 ?_
  refine xs_iadd d255_28 ?_
  refine xs_ldcw (v := 252645135) d255_29 cs13_267 ?_
  refine xs_iand d255_32 ?_
  obtain ⟨v0_3, ev0_3, hf⟩ := lk_let hf
  refine xe_istore_n (v := v0_3) (ls2 := [(0, xi v0_3)]) d255_33 mx255 (by decide) ev0_3 rfl ?_
  refine xs_iload_n d255_34 rfl ?_
  refine xs_iload_n d255_35 rfl ?_
  refine xs_bipush (v := 8) d255_36 (by decide) ?_
  refine xs_iushr d255_38 ?_
  refine xs_iadd d255_39 ?_
  obtain ⟨v0_4, ev0_4, hf⟩ := lk_let hf
  refine xe_istore_n (v := v0_4) (ls2 := [(0, xi v0_4)]) d255_40 mx255 (by decide) ev0_4 rfl ?_
  refine xs_iload_n d255_41 rfl ?_
  refine xs_iload_n d255_42 rfl ?_
  refine xs_bipush (v := 16) d255_43 (by decide) ?_
  refine xs_iushr d255_45 ?_
  refine xs_iadd d255_46 ?_
  obtain ⟨v0_5, ev0_5, hf⟩ := lk_let hf
  refine xe_istore_n (v := v0_5) (ls2 := [(0, xi v0_5)]) d255_47 mx255 (by decide) ev0_5 rfl ?_
  refine xs_iload_n d255_48 rfl ?_
  refine xs_bipush (v := 63) d255_49 (by decide) ?_
  refine xs_iand d255_51 ?_
  obtain eR := K0 _ (Option.some.inj hf).symm
  subst eR
  exact xs_iret d255_52 rt255
noncomputable def f_Integer_bitCount (v0 : Int32) (h : xH) : Option Int32 := f_Integer_bitCount_e v0 h
theorem f_Integer_bitCount_ok {g : xG} {l : Launch} {d : Nat} {v0 : Int32} {h : xH} {r : Int32} (hD : 0 ≤ d) (hf : f_Integer_bitCount v0 h = some r) : xC g l d 255 [xi v0] h (some (xi r)) h :=
  xC_of2 (by decide) mx255 (Nat.le_of_ble_eq_true rfl) (f_Integer_bitCount_e_ok hD hf (fun _ e => by rw [e]))
theorem d4_0 : decode (xcode 4) 0 = .ok (.iconst (-1), 1) := by decide +kernel
theorem d4_1 : decode (xcode 4) 1 = .ok (.istore_n 3, 1) := by decide +kernel
theorem d4_2 : decode (xcode 4) 2 = .ok (.iconst 0, 1) := by decide +kernel
theorem d4_3 : decode (xcode 4) 3 = .ok (.istore 4, 2) := by decide +kernel
theorem d4_5 : decode (xcode 4) 5 = .ok (.iload 4, 2) := by decide +kernel
theorem d4_7 : decode (xcode 4) 7 = .ok (.iconst 1, 1) := by decide +kernel
theorem d4_8 : decode (xcode 4) 8 = .ok (.aload_n 2, 1) := by decide +kernel
theorem d4_9 : decode (xcode 4) 9 = .ok (.getfield 76, 3) := by decide +kernel
theorem d4_12 : decode (xcode 4) 12 = .ok (.ishl, 1) := by decide +kernel
theorem d4_13 : decode (xcode 4) 13 = .ok (.if_icmp .ge 87, 3) := by decide +kernel
theorem d4_16 : decode (xcode 4) 16 = .ok (.iconst 0, 1) := by decide +kernel
theorem d4_17 : decode (xcode 4) 17 = .ok (.istore 5, 2) := by decide +kernel
theorem d4_19 : decode (xcode 4) 19 = .ok (.iconst 0, 1) := by decide +kernel
theorem d4_20 : decode (xcode 4) 20 = .ok (.istore 6, 2) := by decide +kernel
theorem d4_22 : decode (xcode 4) 22 = .ok (.iload 6, 2) := by decide +kernel
theorem d4_24 : decode (xcode 4) 24 = .ok (.iconst 4, 1) := by decide +kernel
theorem d4_25 : decode (xcode 4) 25 = .ok (.if_icmp .ge 31, 3) := by decide +kernel
theorem d4_28 : decode (xcode 4) 28 = .ok (.iload 4, 2) := by decide +kernel
theorem d4_30 : decode (xcode 4) 30 = .ok (.iload 6, 2) := by decide +kernel
theorem d4_32 : decode (xcode 4) 32 = .ok (.ishr, 1) := by decide +kernel
theorem d4_33 : decode (xcode 4) 33 = .ok (.iconst 1, 1) := by decide +kernel
theorem d4_34 : decode (xcode 4) 34 = .ok (.iand, 1) := by decide +kernel
theorem d4_35 : decode (xcode 4) 35 = .ok (.ifCond .eq 15, 3) := by decide +kernel
theorem d4_38 : decode (xcode 4) 38 = .ok (.iload 5, 2) := by decide +kernel
theorem d4_40 : decode (xcode 4) 40 = .ok (.aload_n 2, 1) := by decide +kernel
theorem d4_41 : decode (xcode 4) 41 = .ok (.getfield 36, 3) := by decide +kernel
theorem d4_44 : decode (xcode 4) 44 = .ok (.iload 6, 2) := by decide +kernel
theorem d4_46 : decode (xcode 4) 46 = .ok (.iaload, 1) := by decide +kernel
theorem d4_47 : decode (xcode 4) 47 = .ok (.iadd, 1) := by decide +kernel
theorem d4_48 : decode (xcode 4) 48 = .ok (.istore 5, 2) := by decide +kernel
theorem d4_50 : decode (xcode 4) 50 = .ok (.iinc 6 1, 3) := by decide +kernel
theorem d4_53 : decode (xcode 4) 53 = .ok (.goto (-31), 3) := by decide +kernel
theorem d4_56 : decode (xcode 4) 56 = .ok (.iload_n 3, 1) := by decide +kernel
theorem d4_57 : decode (xcode 4) 57 = .ok (.iconst (-1), 1) := by decide +kernel
theorem d4_58 : decode (xcode 4) 58 = .ok (.if_icmp .eq 15, 3) := by decide +kernel
theorem d4_61 : decode (xcode 4) 61 = .ok (.iload 4, 2) := by decide +kernel
theorem d4_63 : decode (xcode 4) 63 = .ok (.invokestatic 79, 3) := by decide +kernel
theorem d4_66 : decode (xcode 4) 66 = .ok (.iload_n 3, 1) := by decide +kernel
theorem d4_67 : decode (xcode 4) 67 = .ok (.invokestatic 79, 3) := by decide +kernel
theorem d4_70 : decode (xcode 4) 70 = .ok (.if_icmp .ge 7, 3) := by decide +kernel
theorem d4_73 : decode (xcode 4) 73 = .ok (.iconst 1, 1) := by decide +kernel
theorem d4_74 : decode (xcode 4) 74 = .ok (.goto 4, 3) := by decide +kernel
theorem d4_77 : decode (xcode 4) 77 = .ok (.iconst 0, 1) := by decide +kernel
theorem d4_78 : decode (xcode 4) 78 = .ok (.istore 6, 2) := by decide +kernel
theorem d4_80 : decode (xcode 4) 80 = .ok (.iload 5, 2) := by decide +kernel
theorem d4_82 : decode (xcode 4) 82 = .ok (.iload_n 1, 1) := by decide +kernel
theorem d4_83 : decode (xcode 4) 83 = .ok (.if_icmp .lt 11, 3) := by decide +kernel
theorem d4_86 : decode (xcode 4) 86 = .ok (.iload 6, 2) := by decide +kernel
theorem d4_88 : decode (xcode 4) 88 = .ok (.ifCond .eq 6, 3) := by decide +kernel
theorem d4_91 : decode (xcode 4) 91 = .ok (.iload 4, 2) := by decide +kernel
theorem d4_93 : decode (xcode 4) 93 = .ok (.istore_n 3, 1) := by decide +kernel
theorem d4_94 : decode (xcode 4) 94 = .ok (.iinc 4 1, 3) := by decide +kernel
theorem d4_97 : decode (xcode 4) 97 = .ok (.goto (-92), 3) := by decide +kernel
theorem d4_100 : decode (xcode 4) 100 = .ok (.iload_n 3, 1) := by decide +kernel
theorem d4_101 : decode (xcode 4) 101 = .ok (.ireturn, 1) := by decide +kernel
noncomputable def f_Bearing_fewestFor_b94 (i2 : Nat) (v1 : Int32) (v3 : Int32) (v4 : Int32) (h : xH) : Option ((Int32 × Int32) ⊕ Int32) :=
  xlet (v4 + (1 : Int32)) fun v4_5 =>
  some (Sum.inl (v3, v4_5))
set_option maxHeartbeats 4000000 in
set_option maxRecDepth 100000 in
theorem f_Bearing_fewestFor_b94_ok {g : xG} {l : Launch} {d : Nat} {i2 : Nat} {v1 : Int32} {v3 : Int32} {v4 : Int32} {h : xH} {o : ((Int32 × Int32) ⊕ Int32)} {R : Option xV} (hD : 1 ≤ d) (hf : f_Bearing_fewestFor_b94 i2 v1 v3 v4 h = some o) (K1 : ∀ (w3 : Int32) (w4 : Int32), o = Sum.inl (w3, w4) → xEv g l d 4 5 [(1, xi v1), (2, xr 8 (some i2)), (3, xi w3), (4, xi w4)] [] h R h) (K0 : ∀ (a : Int32), o = Sum.inr (a) → R = some (xi a)) : xEv g l d 4 94 [(1, xi v1), (2, xr 8 (some i2)), (3, xi v3), (4, xi v4)] [] h R h := by
  unfold f_Bearing_fewestFor_b94 at hf
  obtain ⟨v4_5, ev4_5, hf⟩ := lk_let hf
  refine xe_iinc (v := v4_5) (b := 1) (ls2 := [(1, xi v1), (2, xr 8 (some i2)), (3, xi v3), (4, xi v4_5)]) d4_94 mx4 (by decide) rfl (by decide) ev4_5 rfl ?_
  refine xs_goto (tgt := 5) d4_97 (by decide) ?_
  exact K1 _ _ (Option.some.inj hf).symm
noncomputable def f_Bearing_fewestFor_b78 (i2 : Nat) (v1 : Int32) (v3 : Int32) (v4 : Int32) (v5 : Int32) (t0 : Int32) (h : xH) : Option ((Int32 × Int32) ⊕ Int32) :=
  if v5 < v1 then (
  f_Bearing_fewestFor_b94 i2 v1 v3 v4 h) else (
  if t0 = (0 : Int32) then (
  f_Bearing_fewestFor_b94 i2 v1 v3 v4 h) else (
  f_Bearing_fewestFor_b94 i2 v1 v4 v4 h))
set_option maxHeartbeats 4000000 in
set_option maxRecDepth 100000 in
theorem f_Bearing_fewestFor_b78_ok {g : xG} {l : Launch} {d : Nat} {i2 : Nat} {v1 : Int32} {v3 : Int32} {v4 : Int32} {v5 : Int32} {t0 : Int32} {h : xH} {o : ((Int32 × Int32) ⊕ Int32)} {R : Option xV} (hD : 1 ≤ d) (hf : f_Bearing_fewestFor_b78 i2 v1 v3 v4 v5 t0 h = some o) (K1 : ∀ (w3 : Int32) (w4 : Int32), o = Sum.inl (w3, w4) → xEv g l d 4 5 [(1, xi v1), (2, xr 8 (some i2)), (3, xi w3), (4, xi w4)] [] h R h) (K0 : ∀ (a : Int32), o = Sum.inr (a) → R = some (xi a)) : xEv g l d 4 78 [(1, xi v1), (2, xr 8 (some i2)), (3, xi v3), (4, xi v4), (5, xi v5)] [xi t0] h R h := by
  unfold f_Bearing_fewestFor_b78 at hf
  refine xe_istore (v := t0) (ls2 := [(1, xi v1), (2, xr 8 (some i2)), (3, xi v3), (4, xi v4), (5, xi v5), (6, xi t0)]) d4_78 mx4 (by decide) rfl rfl ?_
  refine xs_iload d4_80 rfl ?_
  refine xs_iload_n d4_82 rfl ?_
  rcases lk_if hf with ⟨hc4, hf⟩ | ⟨hc4, hf⟩
  · refine xs_icmp_lt (tgt := 94) d4_83 (by decide) (fun _ => ?_) (fun hn => absurd hc4 hn)
    refine xs_pick [0, 1, 2, 3] rfl ?_
    exact f_Bearing_fewestFor_b94_ok hD hf K1 K0
  · refine xs_icmp_lt (tgt := 94) d4_83 (by decide) (fun hp => absurd hp hc4) (fun _ => ?_)
    refine xs_iload d4_86 rfl ?_
    rcases lk_if hf with ⟨hc6, hf⟩ | ⟨hc6, hf⟩
    · refine xs_if_eq (tgt := 94) d4_88 (by decide) (fun _ => ?_) (fun hn => absurd hc6 hn)
      refine xs_pick [0, 1, 2, 3] rfl ?_
      exact f_Bearing_fewestFor_b94_ok hD hf K1 K0
    · refine xs_if_eq (tgt := 94) d4_88 (by decide) (fun hp => absurd hp hc6) (fun _ => ?_)
      refine xs_iload d4_91 rfl ?_
      refine xe_istore_n (v := v4) (ls2 := [(1, xi v1), (2, xr 8 (some i2)), (3, xi v4), (4, xi v4), (5, xi v5), (6, xi t0)]) d4_93 mx4 (by decide) rfl rfl ?_
      refine xs_pick [0, 1, 2, 3] rfl ?_
      exact f_Bearing_fewestFor_b94_ok hD hf K1 K0
noncomputable def f_Bearing_fewestFor_b73 (i2 : Nat) (v1 : Int32) (v3 : Int32) (v4 : Int32) (v5 : Int32) (h : xH) : Option ((Int32 × Int32) ⊕ Int32) :=
  f_Bearing_fewestFor_b78 i2 v1 v3 v4 v5 (1 : Int32) h
set_option maxHeartbeats 4000000 in
set_option maxRecDepth 100000 in
theorem f_Bearing_fewestFor_b73_ok {g : xG} {l : Launch} {d : Nat} {i2 : Nat} {v1 : Int32} {v3 : Int32} {v4 : Int32} {v5 : Int32} {h : xH} {o : ((Int32 × Int32) ⊕ Int32)} {R : Option xV} (hD : 1 ≤ d) (hf : f_Bearing_fewestFor_b73 i2 v1 v3 v4 v5 h = some o) (K1 : ∀ (w3 : Int32) (w4 : Int32), o = Sum.inl (w3, w4) → xEv g l d 4 5 [(1, xi v1), (2, xr 8 (some i2)), (3, xi w3), (4, xi w4)] [] h R h) (K0 : ∀ (a : Int32), o = Sum.inr (a) → R = some (xi a)) : xEv g l d 4 73 [(1, xi v1), (2, xr 8 (some i2)), (3, xi v3), (4, xi v4), (5, xi v5)] [] h R h := by
  unfold f_Bearing_fewestFor_b73 at hf
  refine xs_iconst (v := 1) d4_73 (by decide) ?_
  refine xs_goto (tgt := 78) d4_74 (by decide) ?_
  exact f_Bearing_fewestFor_b78_ok hD hf K1 K0
noncomputable def f_Bearing_fewestFor_b56 (i2 : Nat) (v1 : Int32) (v3 : Int32) (v4 : Int32) (v5 : Int32) (h : xH) : Option ((Int32 × Int32) ⊕ Int32) :=
  if v3 = (-1 : Int32) then (
  f_Bearing_fewestFor_b73 i2 v1 v3 v4 v5 h) else (
  (f_Integer_bitCount v4 h).bind fun r7 =>
  (f_Integer_bitCount v3 h).bind fun r9 =>
  if r9 ≤ r7 then (
  f_Bearing_fewestFor_b78 i2 v1 v3 v4 v5 (0 : Int32) h) else (
  f_Bearing_fewestFor_b73 i2 v1 v3 v4 v5 h))
set_option maxHeartbeats 4000000 in
set_option maxRecDepth 100000 in
theorem f_Bearing_fewestFor_b56_ok {g : xG} {l : Launch} {d : Nat} {i2 : Nat} {v1 : Int32} {v3 : Int32} {v4 : Int32} {v5 : Int32} {h : xH} {o : ((Int32 × Int32) ⊕ Int32)} {R : Option xV} (hD : 1 ≤ d) (hf : f_Bearing_fewestFor_b56 i2 v1 v3 v4 v5 h = some o) (K1 : ∀ (w3 : Int32) (w4 : Int32), o = Sum.inl (w3, w4) → xEv g l d 4 5 [(1, xi v1), (2, xr 8 (some i2)), (3, xi w3), (4, xi w4)] [] h R h) (K0 : ∀ (a : Int32), o = Sum.inr (a) → R = some (xi a)) : xEv g l d 4 56 [(1, xi v1), (2, xr 8 (some i2)), (3, xi v3), (4, xi v4), (5, xi v5)] [] h R h := by
  unfold f_Bearing_fewestFor_b56 at hf
  refine xs_iload_n d4_56 rfl ?_
  refine xs_iconst (v := -1) d4_57 (by decide) ?_
  rcases lk_if hf with ⟨hc3, hf⟩ | ⟨hc3, hf⟩
  · refine xs_icmp_eq (tgt := 73) d4_58 (by decide) (fun _ => ?_) (fun hn => absurd hc3 hn)
    exact f_Bearing_fewestFor_b73_ok hD hf K1 K0
  · refine xs_icmp_eq (tgt := 73) d4_58 (by decide) (fun hp => absurd hp hc3) (fun _ => ?_)
    refine xs_iload d4_61 rfl ?_
    obtain ⟨r7, hc8, hf⟩ := lk_b hf
    refine xe_calls1 (as := [xi v4]) (st := []) (h2 := h) (d2 := d - 1) d4_63 ky4 ml146 st255 rfl na255 (Nat.le_of_ble_eq_true rfl) (by omega) (f_Integer_bitCount_ok (by omega) hc8) ?_
    refine xs_iload_n d4_66 rfl ?_
    obtain ⟨r9, hc10, hf⟩ := lk_b hf
    refine xe_calls1 (as := [xi v3]) (st := [xi r7]) (h2 := h) (d2 := d - 1) d4_67 ky4 ml146 st255 rfl na255 (Nat.le_of_ble_eq_true rfl) (by omega) (f_Integer_bitCount_ok (by omega) hc10) ?_
    rcases lk_if hf with ⟨hc11, hf⟩ | ⟨hc11, hf⟩
    · refine xs_icmp_ge (tgt := 77) d4_70 (by decide) (fun _ => ?_) (fun hn => absurd hc11 hn)
      refine xs_iconst (v := 0) d4_77 (by decide) ?_
      exact f_Bearing_fewestFor_b78_ok hD hf K1 K0
    · refine xs_icmp_ge (tgt := 77) d4_70 (by decide) (fun hp => absurd hp hc11) (fun _ => ?_)
      exact f_Bearing_fewestFor_b73_ok hD hf K1 K0
noncomputable def f_Bearing_fewestFor_b50 (i2 : Nat) (v1 : Int32) (v3 : Int32) (v4 : Int32) (v5 : Int32) (v6 : Int32) (h : xH) : Option ((Int32 × Int32) ⊕ ((Int32 × Int32) ⊕ Int32)) :=
  xlet (v6 + (1 : Int32)) fun v6_13 =>
  some (Sum.inl (v5, v6_13))
set_option maxHeartbeats 4000000 in
set_option maxRecDepth 100000 in
theorem f_Bearing_fewestFor_b50_ok {g : xG} {l : Launch} {d : Nat} {i2 : Nat} {v1 : Int32} {v3 : Int32} {v4 : Int32} {v5 : Int32} {v6 : Int32} {h : xH} {o : ((Int32 × Int32) ⊕ ((Int32 × Int32) ⊕ Int32))} {R : Option xV} (hD : 1 ≤ d) (hf : f_Bearing_fewestFor_b50 i2 v1 v3 v4 v5 v6 h = some o) (K1 : ∀ (w3 : Int32) (w4 : Int32), o = Sum.inr (Sum.inl (w3, w4)) → xEv g l d 4 5 [(1, xi v1), (2, xr 8 (some i2)), (3, xi w3), (4, xi w4)] [] h R h) (K2 : ∀ (w5 : Int32) (w6 : Int32), o = Sum.inl (w5, w6) → xEv g l d 4 22 [(1, xi v1), (2, xr 8 (some i2)), (3, xi v3), (4, xi v4), (5, xi w5), (6, xi w6)] [] h R h) (K0 : ∀ (a : Int32), o = Sum.inr (Sum.inr (a)) → R = some (xi a)) : xEv g l d 4 50 [(1, xi v1), (2, xr 8 (some i2)), (3, xi v3), (4, xi v4), (5, xi v5), (6, xi v6)] [] h R h := by
  unfold f_Bearing_fewestFor_b50 at hf
  obtain ⟨v6_13, ev6_13, hf⟩ := lk_let hf
  refine xe_iinc (v := v6_13) (b := 1) (ls2 := [(1, xi v1), (2, xr 8 (some i2)), (3, xi v3), (4, xi v4), (5, xi v5), (6, xi v6_13)]) d4_50 mx4 (by decide) rfl (by decide) ev6_13 rfl ?_
  refine xs_goto (tgt := 22) d4_53 (by decide) ?_
  exact K2 _ _ (Option.some.inj hf).symm
noncomputable def f_Bearing_fewestFor_s22 (i2 : Nat) (v1 : Int32) (v3 : Int32) (v4 : Int32) (v5 : Int32) (v6 : Int32) (h : xH) : Option ((Int32 × Int32) ⊕ ((Int32 × Int32) ⊕ Int32)) :=
  if (4 : Int32) ≤ v6 then (
  xup (f_Bearing_fewestFor_b56 i2 v1 v3 v4 v5 h)) else (
  if ((v4 >>> (v6 &&& 31)) &&& (1 : Int32)) = (0 : Int32) then (
  f_Bearing_fewestFor_b50 i2 v1 v3 v4 v5 v6 h) else (
  if xib v6 4 then (
  xlet (v5 + (h.2.2.2.1 41 i2 (v6).toNatClampNeg)) fun v5_15 =>
  f_Bearing_fewestFor_b50 i2 v1 v3 v4 v5_15 v6 h) else none))
set_option maxHeartbeats 4000000 in
set_option maxRecDepth 100000 in
theorem f_Bearing_fewestFor_s22_ok {g : xG} {l : Launch} {d : Nat} {i2 : Nat} {v1 : Int32} {v3 : Int32} {v4 : Int32} {v5 : Int32} {v6 : Int32} {h : xH} {o : ((Int32 × Int32) ⊕ ((Int32 × Int32) ⊕ Int32))} {R : Option xV} (hD : 1 ≤ d) (hf : f_Bearing_fewestFor_s22 i2 v1 v3 v4 v5 v6 h = some o) (K1 : ∀ (w3 : Int32) (w4 : Int32), o = Sum.inr (Sum.inl (w3, w4)) → xEv g l d 4 5 [(1, xi v1), (2, xr 8 (some i2)), (3, xi w3), (4, xi w4)] [] h R h) (K2 : ∀ (w5 : Int32) (w6 : Int32), o = Sum.inl (w5, w6) → xEv g l d 4 22 [(1, xi v1), (2, xr 8 (some i2)), (3, xi v3), (4, xi v4), (5, xi w5), (6, xi w6)] [] h R h) (K0 : ∀ (a : Int32), o = Sum.inr (Sum.inr (a)) → R = some (xi a)) : xEv g l d 4 22 [(1, xi v1), (2, xr 8 (some i2)), (3, xi v3), (4, xi v4), (5, xi v5), (6, xi v6)] [] h R h := by
  unfold f_Bearing_fewestFor_s22 at hf
  refine xs_iload d4_22 rfl ?_
  refine xs_iconst (v := 4) d4_24 (by decide) ?_
  rcases lk_if hf with ⟨hc2, hf⟩ | ⟨hc2, hf⟩
  · refine xs_icmp_ge (tgt := 56) d4_25 (by decide) (fun _ => ?_) (fun hn => absurd hc2 hn)
    refine xs_pick [0, 1, 2, 3, 4] rfl ?_
    obtain ⟨x0, hf, ex0⟩ := lk_up hf
    exact f_Bearing_fewestFor_b56_ok hD hf (fun u0 u1 e => K1 u0 u1 (ex0.trans (congrArg Sum.inr e))) (fun u0 e => K0 u0 (ex0.trans (congrArg Sum.inr e)))
  · refine xs_icmp_ge (tgt := 56) d4_25 (by decide) (fun hp => absurd hp hc2) (fun _ => ?_)
    refine xs_iload d4_28 rfl ?_
    refine xs_iload d4_30 rfl ?_
    refine xs_ishr d4_32 ?_
    refine xs_iconst (v := 1) d4_33 (by decide) ?_
    refine xs_iand d4_34 ?_
    rcases lk_if hf with ⟨hc12, hf⟩ | ⟨hc12, hf⟩
    · refine xs_if_eq (tgt := 50) d4_35 (by decide) (fun _ => ?_) (fun hn => absurd hc12 hn)
      exact f_Bearing_fewestFor_b50_ok hD hf K1 K2 K0
    · refine xs_if_eq (tgt := 50) d4_35 (by decide) (fun hp => absurd hp hc12) (fun _ => ?_)
      refine xs_iload d4_38 rfl ?_
      refine xs_aload_n d4_40 rfl ?_
      refine xe_getc (j := i2) d4_41 ky4 fl52 fk8_9 (by omega) ?_
      refine xs_iload d4_44 rfl ?_
      obtain ⟨hin14, hf⟩ := lk_g hf
      refine xe_iald d4_46 (by decide) ak41 hin14 ?_
      refine xs_iadd d4_47 ?_
      obtain ⟨v5_15, ev5_15, hf⟩ := lk_let hf
      refine xe_istore (v := v5_15) (ls2 := [(1, xi v1), (2, xr 8 (some i2)), (3, xi v3), (4, xi v4), (5, xi v5_15), (6, xi v6)]) d4_48 mx4 (by decide) ev5_15 rfl ?_
      exact f_Bearing_fewestFor_b50_ok hD hf K1 K2 K0
noncomputable def f_Bearing_fewestFor_l22 (i2 : Nat) (v1 : Int32) (v3 : Int32) (v4 : Int32) (v5 : Int32) (v6 : Int32) (h : xH) : Option ((Int32 × Int32) ⊕ Int32) :=
  whl (fun s => f_Bearing_fewestFor_s22 i2 v1 v3 v4 s.1 s.2 h) (v5, v6)
theorem f_Bearing_fewestFor_l22_ok {g : xG} {l : Launch} {d : Nat} {i2 : Nat} {v1 : Int32} {v3 : Int32} {v4 : Int32} {v5 : Int32} {v6 : Int32} {h : xH} {o : ((Int32 × Int32) ⊕ Int32)} {R : Option xV} (hD : 1 ≤ d) (hf : f_Bearing_fewestFor_l22 i2 v1 v3 v4 v5 v6 h = some o) (K1 : ∀ (w3 : Int32) (w4 : Int32), o = Sum.inl (w3, w4) → xEv g l d 4 5 [(1, xi v1), (2, xr 8 (some i2)), (3, xi w3), (4, xi w4)] [] h R h) (K0 : ∀ (a : Int32), o = Sum.inr (a) → R = some (xi a)) : xEv g l d 4 22 [(1, xi v1), (2, xr 8 (some i2)), (3, xi v3), (4, xi v4), (5, xi v5), (6, xi v6)] [] h R h := by
  obtain ⟨n, hn⟩ := whl_iff.mp hf
  clear hf
  induction n generalizing v5 v6 with
  | zero => cases hn
  | succ n ih =>
    obtain ⟨o2, hs, hn⟩ := lk_b (show (f_Bearing_fewestFor_s22 i2 v1 v3 v4 v5 v6 h).bind (fun o => Sum.elim (itn _ n) some o) = some o from hn)
    exact f_Bearing_fewestFor_s22_ok hD hs (fun u0 u1 e => K1 u0 u1 (by rw [e] at hn; exact (Option.some.inj hn).symm)) (fun u0 u1 e => ih (by rw [e] at hn; exact hn)) (fun u0 e => K0 u0 (by rw [e] at hn; exact (Option.some.inj hn).symm))
noncomputable def f_Bearing_fewestFor_s5 (i2 : Nat) (v1 : Int32) (v3 : Int32) (v4 : Int32) (h : xH) : Option ((Int32 × Int32) ⊕ Int32) :=
  if ((1 : Int32) <<< ((h.1 8 4 i2) &&& 31)) ≤ v4 then (
  some (Sum.inr (v3))) else (
  f_Bearing_fewestFor_l22 i2 v1 v3 v4 (0 : Int32) (0 : Int32) h)
set_option maxHeartbeats 4000000 in
set_option maxRecDepth 100000 in
theorem f_Bearing_fewestFor_s5_ok {g : xG} {l : Launch} {d : Nat} {i2 : Nat} {v1 : Int32} {v3 : Int32} {v4 : Int32} {h : xH} {o : ((Int32 × Int32) ⊕ Int32)} {R : Option xV} (hD : 1 ≤ d) (hf : f_Bearing_fewestFor_s5 i2 v1 v3 v4 h = some o) (K1 : ∀ (w3 : Int32) (w4 : Int32), o = Sum.inl (w3, w4) → xEv g l d 4 5 [(1, xi v1), (2, xr 8 (some i2)), (3, xi w3), (4, xi w4)] [] h R h) (K0 : ∀ (a : Int32), o = Sum.inr (a) → R = some (xi a)) : xEv g l d 4 5 [(1, xi v1), (2, xr 8 (some i2)), (3, xi v3), (4, xi v4)] [] h R h := by
  unfold f_Bearing_fewestFor_s5 at hf
  refine xs_iload d4_5 rfl ?_
  refine xs_iconst (v := 1) d4_7 (by decide) ?_
  refine xs_aload_n d4_8 rfl ?_
  refine xe_geti d4_9 ky4 fl35 fk8_4 ?_
  refine xs_ishl d4_12 ?_
  rcases lk_if hf with ⟨hc1, hf⟩ | ⟨hc1, hf⟩
  · refine xs_icmp_ge (tgt := 100) d4_13 (by decide) (fun _ => ?_) (fun hn => absurd hc1 hn)
    refine xs_iload_n d4_100 rfl ?_
    obtain eR := K0 _ (Option.some.inj hf).symm
    subst eR
    exact xs_iret d4_101 rt4
  · refine xs_icmp_ge (tgt := 100) d4_13 (by decide) (fun hp => absurd hp hc1) (fun _ => ?_)
    refine xs_iconst (v := 0) d4_16 (by decide) ?_
    refine xe_istore (v := (0 : Int32)) (ls2 := [(1, xi v1), (2, xr 8 (some i2)), (3, xi v3), (4, xi v4), (5, xi (0 : Int32))]) d4_17 mx4 (by decide) rfl rfl ?_
    refine xs_iconst (v := 0) d4_19 (by decide) ?_
    refine xe_istore (v := (0 : Int32)) (ls2 := [(1, xi v1), (2, xr 8 (some i2)), (3, xi v3), (4, xi v4), (5, xi (0 : Int32)), (6, xi (0 : Int32))]) d4_20 mx4 (by decide) rfl rfl ?_
    exact f_Bearing_fewestFor_l22_ok hD hf K1 K0
noncomputable def f_Bearing_fewestFor_l5 (i2 : Nat) (v1 : Int32) (v3 : Int32) (v4 : Int32) (h : xH) : Option Int32 :=
  whl (fun s => f_Bearing_fewestFor_s5 i2 v1 s.1 s.2 h) (v3, v4)
theorem f_Bearing_fewestFor_l5_ok {g : xG} {l : Launch} {d : Nat} {i2 : Nat} {v1 : Int32} {v3 : Int32} {v4 : Int32} {h : xH} {o : Int32} {R : Option xV} (hD : 1 ≤ d) (hf : f_Bearing_fewestFor_l5 i2 v1 v3 v4 h = some o) (K0 : ∀ (a : Int32), o = a → R = some (xi a)) : xEv g l d 4 5 [(1, xi v1), (2, xr 8 (some i2)), (3, xi v3), (4, xi v4)] [] h R h := by
  obtain ⟨n, hn⟩ := whl_iff.mp hf
  clear hf
  induction n generalizing v3 v4 with
  | zero => cases hn
  | succ n ih =>
    obtain ⟨o2, hs, hn⟩ := lk_b (show (f_Bearing_fewestFor_s5 i2 v1 v3 v4 h).bind (fun o => Sum.elim (itn _ n) some o) = some o from hn)
    exact f_Bearing_fewestFor_s5_ok hD hs (fun u0 u1 e => ih (by rw [e] at hn; exact hn)) (fun u0 e => K0 u0 (by rw [e] at hn; exact (Option.some.inj hn).symm))
noncomputable def f_Bearing_fewestFor_e (i2 : Nat) (v1 : Int32) (h : xH) : Option Int32 :=
  f_Bearing_fewestFor_l5 i2 v1 (-1 : Int32) (0 : Int32) h
set_option maxHeartbeats 4000000 in
set_option maxRecDepth 100000 in
theorem f_Bearing_fewestFor_e_ok {g : xG} {l : Launch} {d : Nat} {i2 : Nat} {v1 : Int32} {h : xH} {o : Int32} {R : Option xV} (hD : 1 ≤ d) (hf : f_Bearing_fewestFor_e i2 v1 h = some o) (K0 : ∀ (a : Int32), o = a → R = some (xi a)) : xEv g l d 4 0 [(0, xr 0 (some 0)), (1, xi v1), (2, xr 8 (some i2))] [] h R h := by
  unfold f_Bearing_fewestFor_e at hf
  refine xs_iconst (v := -1) d4_0 (by decide) ?_
  refine xe_istore_n (v := (-1 : Int32)) (ls2 := [(0, xr 0 (some 0)), (1, xi v1), (2, xr 8 (some i2)), (3, xi (-1 : Int32))]) d4_1 mx4 (by decide) rfl rfl ?_
  refine xs_iconst (v := 0) d4_2 (by decide) ?_
  refine xe_istore (v := (0 : Int32)) (ls2 := [(0, xr 0 (some 0)), (1, xi v1), (2, xr 8 (some i2)), (3, xi (-1 : Int32)), (4, xi (0 : Int32))]) d4_3 mx4 (by decide) rfl rfl ?_
  refine xs_pick [1, 2, 3, 4] rfl ?_
  exact f_Bearing_fewestFor_l5_ok hD hf K0
noncomputable def f_Bearing_fewestFor (v1 : Int32) (i2 : Nat) (h : xH) : Option Int32 := f_Bearing_fewestFor_e i2 v1 h
theorem f_Bearing_fewestFor_ok {g : xG} {l : Launch} {d : Nat} {v1 : Int32} {i2 : Nat} {h : xH} {r : Int32} (hD : 1 ≤ d) (hf : f_Bearing_fewestFor v1 i2 h = some r) : xC g l d 4 [xr 0 (some 0), xi v1, xr 8 (some i2)] h (some (xi r)) h :=
  xC_of2 (by decide) mx4 (Nat.le_of_ble_eq_true rfl) (f_Bearing_fewestFor_e_ok hD hf (fun _ e => by rw [e]))
theorem d5_0 : decode (xcode 5) 0 = .ok (.aload_n 0, 1) := by decide +kernel
theorem d5_1 : decode (xcode 5) 1 = .ok (.iconst 0, 1) := by decide +kernel
theorem d5_2 : decode (xcode 5) 2 = .ok (.putfield 18, 3) := by decide +kernel
theorem d5_5 : decode (xcode 5) 5 = .ok (.return_, 1) := by decide +kernel
noncomputable def f_Past_forget_e (h : xH) : Option xH :=
  xlet (xsI h 1 2 0 (0 : Int32)) fun h1 =>
  some (h1)
set_option maxHeartbeats 4000000 in
set_option maxRecDepth 100000 in
theorem f_Past_forget_e_ok {g : xG} {l : Launch} {d : Nat} {h : xH} {o : xH} {R : Option xV} {H' : xH} (hD : 0 ≤ d) (hf : f_Past_forget_e h = some o) (K0 : ∀ (h1 : xH), o = h1 → R = none ∧ H' = h1) : xEv g l d 5 0 [(0, xr 1 (some 0))] [] h R H' := by
  unfold f_Past_forget_e at hf
  refine xs_aload_n d5_0 rfl ?_
  refine xs_iconst (v := 0) d5_1 (by decide) ?_
  obtain ⟨h1, eh1, hf⟩ := lk_let hf
  refine xe_puti d5_2 ky5 fl109 fk1_2 ft1_2 eh1 ?_
  obtain ⟨eR, eH⟩ := K0 _ (Option.some.inj hf).symm
  subst eR; subst eH
  exact xs_vret d5_5 rt5
noncomputable def f_Past_forget (h : xH) : Option xH := f_Past_forget_e h
theorem f_Past_forget_ok {g : xG} {l : Launch} {d : Nat} {h : xH} {h1 : xH} (hD : 0 ≤ d) (hf : f_Past_forget h = some h1) : xC g l d 5 [xr 1 (some 0)] h none h1 :=
  xC_of2 (by decide) mx5 (Nat.le_of_ble_eq_true rfl) (f_Past_forget_e_ok hD hf (fun _ e => ⟨rfl, e⟩))
theorem d46_0 : decode (xcode 46) 0 = .ok (.aload_n 0, 1) := by decide +kernel
theorem d46_1 : decode (xcode 46) 1 = .ok (.aload_n 1, 1) := by decide +kernel
theorem d46_2 : decode (xcode 46) 2 = .ok (.getfield 24, 3) := by decide +kernel
theorem d46_5 : decode (xcode 46) 5 = .ok (.putfield 24, 3) := by decide +kernel
theorem d46_8 : decode (xcode 46) 8 = .ok (.aload_n 0, 1) := by decide +kernel
theorem d46_9 : decode (xcode 46) 9 = .ok (.aload_n 1, 1) := by decide +kernel
theorem d46_10 : decode (xcode 46) 10 = .ok (.getfield 28, 3) := by decide +kernel
theorem d46_13 : decode (xcode 46) 13 = .ok (.putfield 28, 3) := by decide +kernel
theorem d46_16 : decode (xcode 46) 16 = .ok (.aload_n 0, 1) := by decide +kernel
theorem d46_17 : decode (xcode 46) 17 = .ok (.aload_n 1, 1) := by decide +kernel
theorem d46_18 : decode (xcode 46) 18 = .ok (.getfield 36, 3) := by decide +kernel
theorem d46_21 : decode (xcode 46) 21 = .ok (.putfield 36, 3) := by decide +kernel
theorem d46_24 : decode (xcode 46) 24 = .ok (.aload_n 0, 1) := by decide +kernel
theorem d46_25 : decode (xcode 46) 25 = .ok (.aload_n 1, 1) := by decide +kernel
theorem d46_26 : decode (xcode 46) 26 = .ok (.getfield 39, 3) := by decide +kernel
theorem d46_29 : decode (xcode 46) 29 = .ok (.putfield 39, 3) := by decide +kernel
theorem d46_32 : decode (xcode 46) 32 = .ok (.aload_n 1, 1) := by decide +kernel
theorem d46_33 : decode (xcode 46) 33 = .ok (.getfield 9, 3) := by decide +kernel
theorem d46_36 : decode (xcode 46) 36 = .ok (.iconst 0, 1) := by decide +kernel
theorem d46_37 : decode (xcode 46) 37 = .ok (.aload_n 0, 1) := by decide +kernel
theorem d46_38 : decode (xcode 46) 38 = .ok (.getfield 9, 3) := by decide +kernel
theorem d46_41 : decode (xcode 46) 41 = .ok (.iconst 0, 1) := by decide +kernel
theorem d46_42 : decode (xcode 46) 42 = .ok (.bipush 8, 2) := by decide +kernel
theorem d46_44 : decode (xcode 46) 44 = .ok (.invokestatic 43, 3) := by decide +kernel
theorem d46_47 : decode (xcode 46) 47 = .ok (.aload_n 1, 1) := by decide +kernel
theorem d46_48 : decode (xcode 46) 48 = .ok (.getfield 15, 3) := by decide +kernel
theorem d46_51 : decode (xcode 46) 51 = .ok (.iconst 0, 1) := by decide +kernel
theorem d46_52 : decode (xcode 46) 52 = .ok (.aload_n 0, 1) := by decide +kernel
theorem d46_53 : decode (xcode 46) 53 = .ok (.getfield 15, 3) := by decide +kernel
theorem d46_56 : decode (xcode 46) 56 = .ok (.iconst 0, 1) := by decide +kernel
theorem d46_57 : decode (xcode 46) 57 = .ok (.bipush 8, 2) := by decide +kernel
theorem d46_59 : decode (xcode 46) 59 = .ok (.invokestatic 43, 3) := by decide +kernel
theorem d46_62 : decode (xcode 46) 62 = .ok (.aload_n 1, 1) := by decide +kernel
theorem d46_63 : decode (xcode 46) 63 = .ok (.getfield 18, 3) := by decide +kernel
theorem d46_66 : decode (xcode 46) 66 = .ok (.iconst 0, 1) := by decide +kernel
theorem d46_67 : decode (xcode 46) 67 = .ok (.aload_n 0, 1) := by decide +kernel
theorem d46_68 : decode (xcode 46) 68 = .ok (.getfield 18, 3) := by decide +kernel
theorem d46_71 : decode (xcode 46) 71 = .ok (.iconst 0, 1) := by decide +kernel
theorem d46_72 : decode (xcode 46) 72 = .ok (.bipush 8, 2) := by decide +kernel
theorem d46_74 : decode (xcode 46) 74 = .ok (.invokestatic 43, 3) := by decide +kernel
theorem d46_77 : decode (xcode 46) 77 = .ok (.aload_n 1, 1) := by decide +kernel
theorem d46_78 : decode (xcode 46) 78 = .ok (.getfield 21, 3) := by decide +kernel
theorem d46_81 : decode (xcode 46) 81 = .ok (.iconst 0, 1) := by decide +kernel
theorem d46_82 : decode (xcode 46) 82 = .ok (.aload_n 0, 1) := by decide +kernel
theorem d46_83 : decode (xcode 46) 83 = .ok (.getfield 21, 3) := by decide +kernel
theorem d46_86 : decode (xcode 46) 86 = .ok (.iconst 0, 1) := by decide +kernel
theorem d46_87 : decode (xcode 46) 87 = .ok (.bipush 8, 2) := by decide +kernel
theorem d46_89 : decode (xcode 46) 89 = .ok (.invokestatic 43, 3) := by decide +kernel
theorem d46_92 : decode (xcode 46) 92 = .ok (.return_, 1) := by decide +kernel
noncomputable def f_State_copyFrom_e (i0 : Nat) (i1 : Nat) (h : xH) : Option xH :=
  xlet (xsI h 6 0 i0 (h.1 6 0 i1)) fun h1 =>
  xlet (xsI h1 6 1 i0 (h1.1 6 1 i1)) fun h2 =>
  xlet (xsI h2 6 2 i0 (h2.1 6 2 i1)) fun h3 =>
  xlet (xsI h3 6 3 i0 (h3.1 6 3 i1)) fun h4 =>
  if ¬ (0 : Int32) < 0 ∧ ¬ (0 : Int32) < 0 ∧ ¬ (8 : Int32) < 0 ∧ ((0 : Int32)).toNatClampNeg + ((8 : Int32)).toNatClampNeg ≤ 8 ∧ ((0 : Int32)).toNatClampNeg + ((8 : Int32)).toNatClampNeg ≤ 8 then (
  xlet (xsA h4 29 i0 (va_cpy (h4.2.2.2.1 29 i1) (h4.2.2.2.1 29 i0) ((0 : Int32)).toNatClampNeg ((0 : Int32)).toNatClampNeg ((8 : Int32)).toNatClampNeg)) fun h6 =>
  if ¬ (0 : Int32) < 0 ∧ ¬ (0 : Int32) < 0 ∧ ¬ (8 : Int32) < 0 ∧ ((0 : Int32)).toNatClampNeg + ((8 : Int32)).toNatClampNeg ≤ 8 ∧ ((0 : Int32)).toNatClampNeg + ((8 : Int32)).toNatClampNeg ≤ 8 then (
  xlet (xsA h6 30 i0 (va_cpy (h6.2.2.2.1 30 i1) (h6.2.2.2.1 30 i0) ((0 : Int32)).toNatClampNeg ((0 : Int32)).toNatClampNeg ((8 : Int32)).toNatClampNeg)) fun h8 =>
  if ¬ (0 : Int32) < 0 ∧ ¬ (0 : Int32) < 0 ∧ ¬ (8 : Int32) < 0 ∧ ((0 : Int32)).toNatClampNeg + ((8 : Int32)).toNatClampNeg ≤ 8 ∧ ((0 : Int32)).toNatClampNeg + ((8 : Int32)).toNatClampNeg ≤ 8 then (
  xlet (xsA h8 31 i0 (va_cpy (h8.2.2.2.1 31 i1) (h8.2.2.2.1 31 i0) ((0 : Int32)).toNatClampNeg ((0 : Int32)).toNatClampNeg ((8 : Int32)).toNatClampNeg)) fun h10 =>
  if ¬ (0 : Int32) < 0 ∧ ¬ (0 : Int32) < 0 ∧ ¬ (8 : Int32) < 0 ∧ ((0 : Int32)).toNatClampNeg + ((8 : Int32)).toNatClampNeg ≤ 8 ∧ ((0 : Int32)).toNatClampNeg + ((8 : Int32)).toNatClampNeg ≤ 8 then (
  xlet (xsA h10 32 i0 (va_cpy (h10.2.2.2.1 32 i1) (h10.2.2.2.1 32 i0) ((0 : Int32)).toNatClampNeg ((0 : Int32)).toNatClampNeg ((8 : Int32)).toNatClampNeg)) fun h12 =>
  some (h12)) else none) else none) else none) else none
set_option maxHeartbeats 4000000 in
set_option maxRecDepth 100000 in
theorem f_State_copyFrom_e_ok {g : xG} {l : Launch} {d : Nat} {i0 : Nat} {i1 : Nat} {h : xH} {o : xH} {R : Option xV} {H' : xH} (hD : 1 ≤ d) (hf : f_State_copyFrom_e i0 i1 h = some o) (K0 : ∀ (h1 : xH), o = h1 → R = none ∧ H' = h1) : xEv g l d 46 0 [(0, xr 6 (some i0)), (1, xr 6 (some i1))] [] h R H' := by
  unfold f_State_copyFrom_e at hf
  refine xs_aload_n d46_0 rfl ?_
  refine xs_aload_n d46_1 rfl ?_
  refine xe_geti d46_2 ky46 fl67 fk6_0 ?_
  obtain ⟨h1, eh1, hf⟩ := lk_let hf
  refine xe_puti d46_5 ky46 fl67 fk6_0 ft6_0 eh1 ?_
  refine xs_aload_n d46_8 rfl ?_
  refine xs_aload_n d46_9 rfl ?_
  refine xe_geti d46_10 ky46 fl71 fk6_1 ?_
  obtain ⟨h2, eh2, hf⟩ := lk_let hf
  refine xe_puti d46_13 ky46 fl71 fk6_1 ft6_1 eh2 ?_
  refine xs_aload_n d46_16 rfl ?_
  refine xs_aload_n d46_17 rfl ?_
  refine xe_geti d46_18 ky46 fl74 fk6_2 ?_
  obtain ⟨h3, eh3, hf⟩ := lk_let hf
  refine xe_puti d46_21 ky46 fl74 fk6_2 ft6_2 eh3 ?_
  refine xs_aload_n d46_24 rfl ?_
  refine xs_aload_n d46_25 rfl ?_
  refine xe_geti d46_26 ky46 fl79 fk6_3 ?_
  obtain ⟨h4, eh4, hf⟩ := lk_let hf
  refine xe_puti d46_29 ky46 fl79 fk6_3 ft6_3 eh4 ?_
  refine xs_aload_n d46_32 rfl ?_
  refine xe_getc (j := i1) d46_33 ky46 fl82 fk6_4 (by omega) ?_
  refine xs_iconst (v := 0) d46_36 (by decide) ?_
  refine xs_aload_n d46_37 rfl ?_
  refine xe_getc (j := i0) d46_38 ky46 fl82 fk6_4 (by omega) ?_
  refine xs_iconst (v := 0) d46_41 (by decide) ?_
  refine xs_bipush (v := 8) d46_42 (by decide) ?_
  obtain ⟨hin5, hf⟩ := lk_g hf
  obtain ⟨h6, eh6, hf⟩ := lk_let hf
  refine xe_copy d46_44 ky46 cp6_43 cpw (by decide) ak29 (by decide) ak29 hin5 (Nat.le_of_ble_eq_true rfl) (by omega) eh6 ?_
  refine xs_aload_n d46_47 rfl ?_
  refine xe_getc (j := i1) d46_48 ky46 fl84 fk6_5 (by omega) ?_
  refine xs_iconst (v := 0) d46_51 (by decide) ?_
  refine xs_aload_n d46_52 rfl ?_
  refine xe_getc (j := i0) d46_53 ky46 fl84 fk6_5 (by omega) ?_
  refine xs_iconst (v := 0) d46_56 (by decide) ?_
  refine xs_bipush (v := 8) d46_57 (by decide) ?_
  obtain ⟨hin7, hf⟩ := lk_g hf
  obtain ⟨h8, eh8, hf⟩ := lk_let hf
  refine xe_copy d46_59 ky46 cp6_43 cpw (by decide) ak30 (by decide) ak30 hin7 (Nat.le_of_ble_eq_true rfl) (by omega) eh8 ?_
  refine xs_aload_n d46_62 rfl ?_
  refine xe_getc (j := i1) d46_63 ky46 fl87 fk6_6 (by omega) ?_
  refine xs_iconst (v := 0) d46_66 (by decide) ?_
  refine xs_aload_n d46_67 rfl ?_
  refine xe_getc (j := i0) d46_68 ky46 fl87 fk6_6 (by omega) ?_
  refine xs_iconst (v := 0) d46_71 (by decide) ?_
  refine xs_bipush (v := 8) d46_72 (by decide) ?_
  obtain ⟨hin9, hf⟩ := lk_g hf
  obtain ⟨h10, eh10, hf⟩ := lk_let hf
  refine xe_copy d46_74 ky46 cp6_43 cpw (by decide) ak31 (by decide) ak31 hin9 (Nat.le_of_ble_eq_true rfl) (by omega) eh10 ?_
  refine xs_aload_n d46_77 rfl ?_
  refine xe_getc (j := i1) d46_78 ky46 fl91 fk6_7 (by omega) ?_
  refine xs_iconst (v := 0) d46_81 (by decide) ?_
  refine xs_aload_n d46_82 rfl ?_
  refine xe_getc (j := i0) d46_83 ky46 fl91 fk6_7 (by omega) ?_
  refine xs_iconst (v := 0) d46_86 (by decide) ?_
  refine xs_bipush (v := 8) d46_87 (by decide) ?_
  obtain ⟨hin11, hf⟩ := lk_g hf
  obtain ⟨h12, eh12, hf⟩ := lk_let hf
  refine xe_copy d46_89 ky46 cp6_43 cpw (by decide) ak32 (by decide) ak32 hin11 (Nat.le_of_ble_eq_true rfl) (by omega) eh12 ?_
  obtain ⟨eR, eH⟩ := K0 _ (Option.some.inj hf).symm
  subst eR; subst eH
  exact xs_vret d46_92 rt46
noncomputable def f_State_copyFrom (i0 : Nat) (i1 : Nat) (h : xH) : Option xH := f_State_copyFrom_e i0 i1 h
theorem f_State_copyFrom_ok {g : xG} {l : Launch} {d : Nat} {i0 : Nat} {i1 : Nat} {h : xH} {h1 : xH} (hD : 1 ≤ d) (hf : f_State_copyFrom i0 i1 h = some h1) : xC g l d 46 [xr 6 (some i0), xr 6 (some i1)] h none h1 :=
  xC_of2 (by decide) mx46 (Nat.le_of_ble_eq_true rfl) (f_State_copyFrom_e_ok hD hf (fun _ e => ⟨rfl, e⟩))
theorem d257_0 : decode (xcode 257) 0 = .ok (.iload_n 0, 1) := by decide +kernel
theorem d257_1 : decode (xcode 257) 1 = .ok (.iload_n 1, 1) := by decide +kernel
theorem d257_2 : decode (xcode 257) 2 = .ok (.if_icmp .gt 7, 3) := by decide +kernel
theorem d257_5 : decode (xcode 257) 5 = .ok (.iload_n 0, 1) := by decide +kernel
theorem d257_6 : decode (xcode 257) 6 = .ok (.goto 4, 3) := by decide +kernel
theorem d257_9 : decode (xcode 257) 9 = .ok (.iload_n 1, 1) := by decide +kernel
theorem d257_10 : decode (xcode 257) 10 = .ok (.ireturn, 1) := by decide +kernel
noncomputable def f_Math_min_e (v0 : Int32) (v1 : Int32) (h : xH) : Option Int32 :=
  if v1 < v0 then (
  some (v1)) else (
  some (v0))
set_option maxHeartbeats 4000000 in
set_option maxRecDepth 100000 in
theorem f_Math_min_e_ok {g : xG} {l : Launch} {d : Nat} {v0 : Int32} {v1 : Int32} {h : xH} {o : Int32} {R : Option xV} (hD : 0 ≤ d) (hf : f_Math_min_e v0 v1 h = some o) (K0 : ∀ (a : Int32), o = a → R = some (xi a)) : xEv g l d 257 0 [(0, xi v0), (1, xi v1)] [] h R h := by
  unfold f_Math_min_e at hf
  refine xs_iload_n d257_0 rfl ?_
  refine xs_iload_n d257_1 rfl ?_
  rcases lk_if hf with ⟨hc1, hf⟩ | ⟨hc1, hf⟩
  · refine xs_icmp_gt (tgt := 9) d257_2 (by decide) (fun _ => ?_) (fun hn => absurd hc1 hn)
    refine xs_iload_n d257_9 rfl ?_
    obtain eR := K0 _ (Option.some.inj hf).symm
    subst eR
    exact xs_iret d257_10 rt257
  · refine xs_icmp_gt (tgt := 9) d257_2 (by decide) (fun hp => absurd hp hc1) (fun _ => ?_)
    refine xs_iload_n d257_5 rfl ?_
    refine xs_goto (tgt := 10) d257_6 (by decide) ?_
    obtain eR := K0 _ (Option.some.inj hf).symm
    subst eR
    exact xs_iret d257_10 rt257
noncomputable def f_Math_min (v0 : Int32) (v1 : Int32) (h : xH) : Option Int32 := f_Math_min_e v0 v1 h
theorem f_Math_min_ok {g : xG} {l : Launch} {d : Nat} {v0 : Int32} {v1 : Int32} {h : xH} {r : Int32} (hD : 0 ≤ d) (hf : f_Math_min v0 v1 h = some r) : xC g l d 257 [xi v0, xi v1] h (some (xi r)) h :=
  xC_of2 (by decide) mx257 (Nat.le_of_ble_eq_true rfl) (f_Math_min_e_ok hD hf (fun _ e => by rw [e]))
theorem d6_0 : decode (xcode 6) 0 = .ok (.aload_n 0, 1) := by decide +kernel
theorem d6_1 : decode (xcode 6) 1 = .ok (.getfield 22, 3) := by decide +kernel
theorem d6_4 : decode (xcode 6) 4 = .ok (.ifCond .lt 12, 3) := by decide +kernel
theorem d6_7 : decode (xcode 6) 7 = .ok (.aload_n 0, 1) := by decide +kernel
theorem d6_8 : decode (xcode 6) 8 = .ok (.getfield 22, 3) := by decide +kernel
theorem d6_11 : decode (xcode 6) 11 = .ok (.bipush 20, 2) := by decide +kernel
theorem d6_13 : decode (xcode 6) 13 = .ok (.if_icmp .lt 8, 3) := by decide +kernel
theorem d6_16 : decode (xcode 6) 16 = .ok (.aload_n 0, 1) := by decide +kernel
theorem d6_17 : decode (xcode 6) 17 = .ok (.iconst 0, 1) := by decide +kernel
theorem d6_18 : decode (xcode 6) 18 = .ok (.putfield 22, 3) := by decide +kernel
theorem d6_21 : decode (xcode 6) 21 = .ok (.aload_n 0, 1) := by decide +kernel
theorem d6_22 : decode (xcode 6) 22 = .ok (.getfield 11, 3) := by decide +kernel
theorem d6_25 : decode (xcode 6) 25 = .ok (.aload_n 0, 1) := by decide +kernel
theorem d6_26 : decode (xcode 6) 26 = .ok (.getfield 22, 3) := by decide +kernel
theorem d6_29 : decode (xcode 6) 29 = .ok (.aaload, 1) := by decide +kernel
theorem d6_30 : decode (xcode 6) 30 = .ok (.aload_n 1, 1) := by decide +kernel
theorem d6_31 : decode (xcode 6) 31 = .ok (.invokevirtual 25, 3) := by decide +kernel
theorem d6_34 : decode (xcode 6) 34 = .ok (.aload_n 0, 1) := by decide +kernel
theorem d6_35 : decode (xcode 6) 35 = .ok (.aload_n 0, 1) := by decide +kernel
theorem d6_36 : decode (xcode 6) 36 = .ok (.getfield 22, 3) := by decide +kernel
theorem d6_39 : decode (xcode 6) 39 = .ok (.iconst 1, 1) := by decide +kernel
theorem d6_40 : decode (xcode 6) 40 = .ok (.iadd, 1) := by decide +kernel
theorem d6_41 : decode (xcode 6) 41 = .ok (.bipush 20, 2) := by decide +kernel
theorem d6_43 : decode (xcode 6) 43 = .ok (.irem, 1) := by decide +kernel
theorem d6_44 : decode (xcode 6) 44 = .ok (.putfield 22, 3) := by decide +kernel
theorem d6_47 : decode (xcode 6) 47 = .ok (.aload_n 0, 1) := by decide +kernel
theorem d6_48 : decode (xcode 6) 48 = .ok (.bipush 20, 2) := by decide +kernel
theorem d6_50 : decode (xcode 6) 50 = .ok (.aload_n 0, 1) := by decide +kernel
theorem d6_51 : decode (xcode 6) 51 = .ok (.getfield 18, 3) := by decide +kernel
theorem d6_54 : decode (xcode 6) 54 = .ok (.iconst 1, 1) := by decide +kernel
theorem d6_55 : decode (xcode 6) 55 = .ok (.iadd, 1) := by decide +kernel
theorem d6_56 : decode (xcode 6) 56 = .ok (.invokestatic 29, 3) := by decide +kernel
theorem d6_59 : decode (xcode 6) 59 = .ok (.putfield 18, 3) := by decide +kernel
theorem d6_62 : decode (xcode 6) 62 = .ok (.return_, 1) := by decide +kernel
noncomputable def f_Past_keep_b21 (i1 : Nat) (h : xH) : Option xH :=
  if xib (h.1 1 1 0) 20 then (
  (f_State_copyFrom (5 + (h.1 1 1 0).toNatClampNeg) i1 h).bind fun h6 =>
  xlet (xsI h6 1 1 0 (((h6.1 1 1 0) + (1 : Int32)) - ((h6.1 1 1 0) + (1 : Int32)) / (20 : Int32) * (20 : Int32))) fun h7 =>
  (f_Math_min (20 : Int32) ((h7.1 1 2 0) + (1 : Int32)) h7).bind fun r8 =>
  xlet (xsI h7 1 2 0 r8) fun h10 =>
  some (h10)) else none
set_option maxHeartbeats 4000000 in
set_option maxRecDepth 100000 in
theorem f_Past_keep_b21_ok {g : xG} {l : Launch} {d : Nat} {i1 : Nat} {h : xH} {o : xH} {R : Option xV} {H' : xH} (hD : 2 ≤ d) (hf : f_Past_keep_b21 i1 h = some o) (K0 : ∀ (h1 : xH), o = h1 → R = none ∧ H' = h1) : xEv g l d 6 21 [(0, xr 1 (some 0)), (1, xr 6 (some i1))] [] h R H' := by
  unfold f_Past_keep_b21 at hf
  refine xs_aload_n d6_21 rfl ?_
  refine xe_getc (j := 0) d6_22 ky6 fl107 fk1_0 rfl ?_
  refine xs_aload_n d6_25 rfl ?_
  refine xe_geti d6_26 ky6 fl108 fk1_1 ?_
  obtain ⟨hin3, hf⟩ := lk_g hf
  refine xe_aald d6_29 (by decide) ak17 ⟨by decide, by decide, by decide⟩ hin3 ?_
  refine xs_aload_n d6_30 rfl ?_
  obtain ⟨h6, hc5, hf⟩ := lk_b hf
  refine xe_callv0 (as := [xr 6 (some i1)]) (st := []) (h2 := h6) (d2 := d - 1) d6_31 ky6 ml65 st46 (by decide) cn46 rfl na46 (Nat.le_of_ble_eq_true rfl) (by omega) (f_State_copyFrom_ok (by omega) hc5) ?_
  refine xs_aload_n d6_34 rfl ?_
  refine xs_aload_n d6_35 rfl ?_
  refine xe_geti d6_36 ky6 fl108 fk1_1 ?_
  refine xs_iconst (v := 1) d6_39 (by decide) ?_
  refine xs_iadd d6_40 ?_
  refine xs_bipush (v := 20) d6_41 (by decide) ?_
  refine xs_irem d6_43 (by decide) ?_
  obtain ⟨h7, eh7, hf⟩ := lk_let hf
  refine xe_puti d6_44 ky6 fl108 fk1_1 ft1_1 eh7 ?_
  refine xs_aload_n d6_47 rfl ?_
  refine xs_bipush (v := 20) d6_48 (by decide) ?_
  refine xs_aload_n d6_50 rfl ?_
  refine xe_geti d6_51 ky6 fl109 fk1_2 ?_
  refine xs_iconst (v := 1) d6_54 (by decide) ?_
  refine xs_iadd d6_55 ?_
  obtain ⟨r8, hc9, hf⟩ := lk_b hf
  refine xe_calls1 (as := [xi (20 : Int32), xi ((h7.1 1 2 0) + (1 : Int32))]) (st := [xr 1 (some 0)]) (h2 := h7) (d2 := d - 1) d6_56 ky6 ml66 st257 rfl na257 (Nat.le_of_ble_eq_true rfl) (by omega) (f_Math_min_ok (by omega) hc9) ?_
  obtain ⟨h10, eh10, hf⟩ := lk_let hf
  refine xe_puti d6_59 ky6 fl109 fk1_2 ft1_2 eh10 ?_
  obtain ⟨eR, eH⟩ := K0 _ (Option.some.inj hf).symm
  subst eR; subst eH
  exact xs_vret d6_62 rt6
noncomputable def f_Past_keep_b16 (i1 : Nat) (h : xH) : Option xH :=
  xlet (xsI h 1 1 0 (0 : Int32)) fun h2 =>
  f_Past_keep_b21 i1 h2
set_option maxHeartbeats 4000000 in
set_option maxRecDepth 100000 in
theorem f_Past_keep_b16_ok {g : xG} {l : Launch} {d : Nat} {i1 : Nat} {h : xH} {o : xH} {R : Option xV} {H' : xH} (hD : 2 ≤ d) (hf : f_Past_keep_b16 i1 h = some o) (K0 : ∀ (h1 : xH), o = h1 → R = none ∧ H' = h1) : xEv g l d 6 16 [(0, xr 1 (some 0)), (1, xr 6 (some i1))] [] h R H' := by
  unfold f_Past_keep_b16 at hf
  refine xs_aload_n d6_16 rfl ?_
  refine xs_iconst (v := 0) d6_17 (by decide) ?_
  obtain ⟨h2, eh2, hf⟩ := lk_let hf
  refine xe_puti d6_18 ky6 fl108 fk1_1 ft1_1 eh2 ?_
  exact f_Past_keep_b21_ok hD hf K0
noncomputable def f_Past_keep_e (i1 : Nat) (h : xH) : Option xH :=
  if (h.1 1 1 0) < (0 : Int32) then (
  f_Past_keep_b16 i1 h) else (
  if (h.1 1 1 0) < (20 : Int32) then (
  f_Past_keep_b21 i1 h) else (
  f_Past_keep_b16 i1 h))
set_option maxHeartbeats 4000000 in
set_option maxRecDepth 100000 in
theorem f_Past_keep_e_ok {g : xG} {l : Launch} {d : Nat} {i1 : Nat} {h : xH} {o : xH} {R : Option xV} {H' : xH} (hD : 2 ≤ d) (hf : f_Past_keep_e i1 h = some o) (K0 : ∀ (h1 : xH), o = h1 → R = none ∧ H' = h1) : xEv g l d 6 0 [(0, xr 1 (some 0)), (1, xr 6 (some i1))] [] h R H' := by
  unfold f_Past_keep_e at hf
  refine xs_aload_n d6_0 rfl ?_
  refine xe_geti d6_1 ky6 fl108 fk1_1 ?_
  rcases lk_if hf with ⟨hc1, hf⟩ | ⟨hc1, hf⟩
  · refine xs_if_lt (tgt := 16) d6_4 (by decide) (fun _ => ?_) (fun hn => absurd hc1 hn)
    exact f_Past_keep_b16_ok hD hf K0
  · refine xs_if_lt (tgt := 16) d6_4 (by decide) (fun hp => absurd hp hc1) (fun _ => ?_)
    refine xs_aload_n d6_7 rfl ?_
    refine xe_geti d6_8 ky6 fl108 fk1_1 ?_
    refine xs_bipush (v := 20) d6_11 (by decide) ?_
    rcases lk_if hf with ⟨hc11, hf⟩ | ⟨hc11, hf⟩
    · refine xs_icmp_lt (tgt := 21) d6_13 (by decide) (fun _ => ?_) (fun hn => absurd hc11 hn)
      exact f_Past_keep_b21_ok hD hf K0
    · refine xs_icmp_lt (tgt := 21) d6_13 (by decide) (fun hp => absurd hp hc11) (fun _ => ?_)
      exact f_Past_keep_b16_ok hD hf K0
noncomputable def f_Past_keep (i1 : Nat) (h : xH) : Option xH := f_Past_keep_e i1 h
theorem f_Past_keep_ok {g : xG} {l : Launch} {d : Nat} {i1 : Nat} {h : xH} {h1 : xH} (hD : 2 ≤ d) (hf : f_Past_keep i1 h = some h1) : xC g l d 6 [xr 1 (some 0), xr 6 (some i1)] h none h1 :=
  xC_of2 (by decide) mx6 (Nat.le_of_ble_eq_true rfl) (f_Past_keep_e_ok hD hf (fun _ e => ⟨rfl, e⟩))
theorem d7_0 : decode (xcode 7) 0 = .ok (.aload_n 0, 1) := by decide +kernel
theorem d7_1 : decode (xcode 7) 1 = .ok (.aload_n 0, 1) := by decide +kernel
theorem d7_2 : decode (xcode 7) 2 = .ok (.getfield 22, 3) := by decide +kernel
theorem d7_5 : decode (xcode 7) 5 = .ok (.ifCond .le 12, 3) := by decide +kernel
theorem d7_8 : decode (xcode 7) 8 = .ok (.aload_n 0, 1) := by decide +kernel
theorem d7_9 : decode (xcode 7) 9 = .ok (.getfield 22, 3) := by decide +kernel
theorem d7_12 : decode (xcode 7) 12 = .ok (.iconst 1, 1) := by decide +kernel
theorem d7_13 : decode (xcode 7) 13 = .ok (.isub, 1) := by decide +kernel
theorem d7_14 : decode (xcode 7) 14 = .ok (.goto 5, 3) := by decide +kernel
theorem d7_17 : decode (xcode 7) 17 = .ok (.bipush 19, 2) := by decide +kernel
theorem d7_19 : decode (xcode 7) 19 = .ok (.putfield 22, 3) := by decide +kernel
theorem d7_22 : decode (xcode 7) 22 = .ok (.aload_n 0, 1) := by decide +kernel
theorem d7_23 : decode (xcode 7) 23 = .ok (.getfield 18, 3) := by decide +kernel
theorem d7_26 : decode (xcode 7) 26 = .ok (.ifCond .le 35, 3) := by decide +kernel
theorem d7_29 : decode (xcode 7) 29 = .ok (.aload_n 0, 1) := by decide +kernel
theorem d7_30 : decode (xcode 7) 30 = .ok (.getfield 22, 3) := by decide +kernel
theorem d7_33 : decode (xcode 7) 33 = .ok (.bipush 20, 2) := by decide +kernel
theorem d7_35 : decode (xcode 7) 35 = .ok (.if_icmp .ge 26, 3) := by decide +kernel
theorem d7_38 : decode (xcode 7) 38 = .ok (.aload_n 1, 1) := by decide +kernel
theorem d7_39 : decode (xcode 7) 39 = .ok (.aload_n 0, 1) := by decide +kernel
theorem d7_40 : decode (xcode 7) 40 = .ok (.getfield 11, 3) := by decide +kernel
theorem d7_43 : decode (xcode 7) 43 = .ok (.aload_n 0, 1) := by decide +kernel
theorem d7_44 : decode (xcode 7) 44 = .ok (.getfield 22, 3) := by decide +kernel
theorem d7_47 : decode (xcode 7) 47 = .ok (.aaload, 1) := by decide +kernel
theorem d7_48 : decode (xcode 7) 48 = .ok (.invokevirtual 25, 3) := by decide +kernel
theorem d7_51 : decode (xcode 7) 51 = .ok (.aload_n 0, 1) := by decide +kernel
theorem d7_52 : decode (xcode 7) 52 = .ok (.dup, 1) := by decide +kernel
theorem d7_53 : decode (xcode 7) 53 = .ok (.getfield 18, 3) := by decide +kernel
theorem d7_56 : decode (xcode 7) 56 = .ok (.iconst 1, 1) := by decide +kernel
theorem d7_57 : decode (xcode 7) 57 = .ok (.isub, 1) := by decide +kernel
theorem d7_58 : decode (xcode 7) 58 = .ok (.putfield 18, 3) := by decide +kernel
theorem d7_61 : decode (xcode 7) 61 = .ok (.return_, 1) := by decide +kernel
noncomputable def f_Past_bringBack_b19 (i1 : Nat) (t0 : Int32) (h : xH) : Option xH :=
  xlet (xsI h 1 1 0 t0) fun h2 =>
  if (h2.1 1 2 0) ≤ (0 : Int32) then (
  some (h2)) else (
  if (20 : Int32) ≤ (h2.1 1 1 0) then (
  some (h2)) else (
  if xib (h2.1 1 1 0) 20 then (
  (f_State_copyFrom i1 (5 + (h2.1 1 1 0).toNatClampNeg) h2).bind fun h8 =>
  xlet (xsI h8 1 2 0 ((h8.1 1 2 0) - (1 : Int32))) fun h9 =>
  some (h9)) else none))
set_option maxHeartbeats 4000000 in
set_option maxRecDepth 100000 in
theorem f_Past_bringBack_b19_ok {g : xG} {l : Launch} {d : Nat} {i1 : Nat} {t0 : Int32} {h : xH} {o : xH} {R : Option xV} {H' : xH} (hD : 2 ≤ d) (hf : f_Past_bringBack_b19 i1 t0 h = some o) (K0 : ∀ (h1 : xH), o = h1 → R = none ∧ H' = h1) : xEv g l d 7 19 [(0, xr 1 (some 0)), (1, xr 6 (some i1))] [xi t0, xr 1 (some 0)] h R H' := by
  unfold f_Past_bringBack_b19 at hf
  obtain ⟨h2, eh2, hf⟩ := lk_let hf
  refine xe_puti d7_19 ky7 fl108 fk1_1 ft1_1 eh2 ?_
  refine xs_aload_n d7_22 rfl ?_
  refine xe_geti d7_23 ky7 fl109 fk1_2 ?_
  rcases lk_if hf with ⟨hc3, hf⟩ | ⟨hc3, hf⟩
  · refine xs_if_le (tgt := 61) d7_26 (by decide) (fun _ => ?_) (fun hn => absurd hc3 hn)
    obtain ⟨eR, eH⟩ := K0 _ (Option.some.inj hf).symm
    subst eR; subst eH
    exact xs_vret d7_61 rt7
  · refine xs_if_le (tgt := 61) d7_26 (by decide) (fun hp => absurd hp hc3) (fun _ => ?_)
    refine xs_aload_n d7_29 rfl ?_
    refine xe_geti d7_30 ky7 fl108 fk1_1 ?_
    refine xs_bipush (v := 20) d7_33 (by decide) ?_
    rcases lk_if hf with ⟨hc4, hf⟩ | ⟨hc4, hf⟩
    · refine xs_icmp_ge (tgt := 61) d7_35 (by decide) (fun _ => ?_) (fun hn => absurd hc4 hn)
      obtain ⟨eR, eH⟩ := K0 _ (Option.some.inj hf).symm
      subst eR; subst eH
      exact xs_vret d7_61 rt7
    · refine xs_icmp_ge (tgt := 61) d7_35 (by decide) (fun hp => absurd hp hc4) (fun _ => ?_)
      refine xs_aload_n d7_38 rfl ?_
      refine xs_aload_n d7_39 rfl ?_
      refine xe_getc (j := 0) d7_40 ky7 fl107 fk1_0 rfl ?_
      refine xs_aload_n d7_43 rfl ?_
      refine xe_geti d7_44 ky7 fl108 fk1_1 ?_
      obtain ⟨hin5, hf⟩ := lk_g hf
      refine xe_aald d7_47 (by decide) ak17 ⟨by decide, by decide, by decide⟩ hin5 ?_
      obtain ⟨h8, hc7, hf⟩ := lk_b hf
      refine xe_callv0 (as := [xr 6 (some (5 + (h2.1 1 1 0).toNatClampNeg))]) (st := []) (h2 := h8) (d2 := d - 1) d7_48 ky7 ml65 st46 (by decide) cn46 rfl na46 (Nat.le_of_ble_eq_true rfl) (by omega) (f_State_copyFrom_ok (by omega) hc7) ?_
      refine xs_aload_n d7_51 rfl ?_
      refine xs_dup d7_52 rfl ?_
      refine xe_geti d7_53 ky7 fl109 fk1_2 ?_
      refine xs_iconst (v := 1) d7_56 (by decide) ?_
      refine xs_isub d7_57 ?_
      obtain ⟨h9, eh9, hf⟩ := lk_let hf
      refine xe_puti d7_58 ky7 fl109 fk1_2 ft1_2 eh9 ?_
      obtain ⟨eR, eH⟩ := K0 _ (Option.some.inj hf).symm
      subst eR; subst eH
      exact xs_vret d7_61 rt7
noncomputable def f_Past_bringBack_e (i1 : Nat) (h : xH) : Option xH :=
  if (h.1 1 1 0) ≤ (0 : Int32) then (
  f_Past_bringBack_b19 i1 (19 : Int32) h) else (
  f_Past_bringBack_b19 i1 ((h.1 1 1 0) - (1 : Int32)) h)
set_option maxHeartbeats 4000000 in
set_option maxRecDepth 100000 in
theorem f_Past_bringBack_e_ok {g : xG} {l : Launch} {d : Nat} {i1 : Nat} {h : xH} {o : xH} {R : Option xV} {H' : xH} (hD : 2 ≤ d) (hf : f_Past_bringBack_e i1 h = some o) (K0 : ∀ (h1 : xH), o = h1 → R = none ∧ H' = h1) : xEv g l d 7 0 [(0, xr 1 (some 0)), (1, xr 6 (some i1))] [] h R H' := by
  unfold f_Past_bringBack_e at hf
  refine xs_aload_n d7_0 rfl ?_
  refine xs_aload_n d7_1 rfl ?_
  refine xe_geti d7_2 ky7 fl108 fk1_1 ?_
  rcases lk_if hf with ⟨hc1, hf⟩ | ⟨hc1, hf⟩
  · refine xs_if_le (tgt := 17) d7_5 (by decide) (fun _ => ?_) (fun hn => absurd hc1 hn)
    refine xs_bipush (v := 19) d7_17 (by decide) ?_
    exact f_Past_bringBack_b19_ok hD hf K0
  · refine xs_if_le (tgt := 17) d7_5 (by decide) (fun hp => absurd hp hc1) (fun _ => ?_)
    refine xs_aload_n d7_8 rfl ?_
    refine xe_geti d7_9 ky7 fl108 fk1_1 ?_
    refine xs_iconst (v := 1) d7_12 (by decide) ?_
    refine xs_isub d7_13 ?_
    refine xs_goto (tgt := 19) d7_14 (by decide) ?_
    exact f_Past_bringBack_b19_ok hD hf K0
noncomputable def f_Past_bringBack (i1 : Nat) (h : xH) : Option xH := f_Past_bringBack_e i1 h
theorem f_Past_bringBack_ok {g : xG} {l : Launch} {d : Nat} {i1 : Nat} {h : xH} {h1 : xH} (hD : 2 ≤ d) (hf : f_Past_bringBack i1 h = some h1) : xC g l d 7 [xr 1 (some 0), xr 6 (some i1)] h none h1 :=
  xC_of2 (by decide) mx7 (Nat.le_of_ble_eq_true rfl) (f_Past_bringBack_e_ok hD hf (fun _ e => ⟨rfl, e⟩))
theorem d8_0 : decode (xcode 8) 0 = .ok (.aload_n 0, 1) := by decide +kernel
theorem d8_1 : decode (xcode 8) 1 = .ok (.iconst 0, 1) := by decide +kernel
theorem d8_2 : decode (xcode 8) 2 = .ok (.putfield 19, 3) := by decide +kernel
theorem d8_5 : decode (xcode 8) 5 = .ok (.aload_n 0, 1) := by decide +kernel
theorem d8_6 : decode (xcode 8) 6 = .ok (.iconst 0, 1) := by decide +kernel
theorem d8_7 : decode (xcode 8) 7 = .ok (.putfield 23, 3) := by decide +kernel
theorem d8_10 : decode (xcode 8) 10 = .ok (.return_, 1) := by decide +kernel
noncomputable def f_Rule_clear_e (i0 : Nat) (h : xH) : Option xH :=
  xlet (xsI h 2 2 i0 (0 : Int32)) fun h1 =>
  xlet (xsI h1 2 3 i0 (0 : Int32)) fun h2 =>
  some (h2)
set_option maxHeartbeats 4000000 in
set_option maxRecDepth 100000 in
theorem f_Rule_clear_e_ok {g : xG} {l : Launch} {d : Nat} {i0 : Nat} {h : xH} {o : xH} {R : Option xV} {H' : xH} (hD : 0 ≤ d) (hf : f_Rule_clear_e i0 h = some o) (K0 : ∀ (h1 : xH), o = h1 → R = none ∧ H' = h1) : xEv g l d 8 0 [(0, xr 2 (some i0))] [] h R H' := by
  unfold f_Rule_clear_e at hf
  refine xs_aload_n d8_0 rfl ?_
  refine xs_iconst (v := 0) d8_1 (by decide) ?_
  obtain ⟨h1, eh1, hf⟩ := lk_let hf
  refine xe_puti d8_2 ky8 fl64 fk2_2 ft2_2 eh1 ?_
  refine xs_aload_n d8_5 rfl ?_
  refine xs_iconst (v := 0) d8_6 (by decide) ?_
  obtain ⟨h2, eh2, hf⟩ := lk_let hf
  refine xe_putz d8_7 ky8 fl65 fk2_3 ft2_3 (Or.inl rfl) eh2 ?_
  obtain ⟨eR, eH⟩ := K0 _ (Option.some.inj hf).symm
  subst eR; subst eH
  exact xs_vret d8_10 rt8
noncomputable def f_Rule_clear (i0 : Nat) (h : xH) : Option xH := f_Rule_clear_e i0 h
theorem f_Rule_clear_ok {g : xG} {l : Launch} {d : Nat} {i0 : Nat} {h : xH} {h1 : xH} (hD : 0 ≤ d) (hf : f_Rule_clear i0 h = some h1) : xC g l d 8 [xr 2 (some i0)] h none h1 :=
  xC_of2 (by decide) mx8 (Nat.le_of_ble_eq_true rfl) (f_Rule_clear_e_ok hD hf (fun _ e => ⟨rfl, e⟩))
theorem d9_0 : decode (xcode 9) 0 = .ok (.aload_n 0, 1) := by decide +kernel
theorem d9_1 : decode (xcode 9) 1 = .ok (.getfield 19, 3) := by decide +kernel
theorem d9_4 : decode (xcode 9) 4 = .ok (.ifCond .lt 35, 3) := by decide +kernel
theorem d9_7 : decode (xcode 9) 7 = .ok (.aload_n 0, 1) := by decide +kernel
theorem d9_8 : decode (xcode 9) 8 = .ok (.getfield 19, 3) := by decide +kernel
theorem d9_11 : decode (xcode 9) 11 = .ok (.aload_n 0, 1) := by decide +kernel
theorem d9_12 : decode (xcode 9) 12 = .ok (.getfield 9, 3) := by decide +kernel
theorem d9_15 : decode (xcode 9) 15 = .ok (.arraylength, 1) := by decide +kernel
theorem d9_16 : decode (xcode 9) 16 = .ok (.if_icmp .ge 23, 3) := by decide +kernel
theorem d9_19 : decode (xcode 9) 19 = .ok (.aload_n 0, 1) := by decide +kernel
theorem d9_20 : decode (xcode 9) 20 = .ok (.getfield 9, 3) := by decide +kernel
theorem d9_23 : decode (xcode 9) 23 = .ok (.aload_n 0, 1) := by decide +kernel
theorem d9_24 : decode (xcode 9) 24 = .ok (.getfield 19, 3) := by decide +kernel
theorem d9_27 : decode (xcode 9) 27 = .ok (.iload_n 1, 1) := by decide +kernel
theorem d9_28 : decode (xcode 9) 28 = .ok (.iastore, 1) := by decide +kernel
theorem d9_29 : decode (xcode 9) 29 = .ok (.aload_n 0, 1) := by decide +kernel
theorem d9_30 : decode (xcode 9) 30 = .ok (.dup, 1) := by decide +kernel
theorem d9_31 : decode (xcode 9) 31 = .ok (.getfield 19, 3) := by decide +kernel
theorem d9_34 : decode (xcode 9) 34 = .ok (.iconst 1, 1) := by decide +kernel
theorem d9_35 : decode (xcode 9) 35 = .ok (.iadd, 1) := by decide +kernel
theorem d9_36 : decode (xcode 9) 36 = .ok (.putfield 19, 3) := by decide +kernel
theorem d9_39 : decode (xcode 9) 39 = .ok (.iload_n 1, 1) := by decide +kernel
theorem d9_40 : decode (xcode 9) 40 = .ok (.bipush 7, 2) := by decide +kernel
theorem d9_42 : decode (xcode 9) 42 = .ok (.if_icmp .eq 15, 3) := by decide +kernel
theorem d9_45 : decode (xcode 9) 45 = .ok (.iload_n 1, 1) := by decide +kernel
theorem d9_46 : decode (xcode 9) 46 = .ok (.bipush 10, 2) := by decide +kernel
theorem d9_48 : decode (xcode 9) 48 = .ok (.if_icmp .eq 9, 3) := by decide +kernel
theorem d9_51 : decode (xcode 9) 51 = .ok (.iload_n 1, 1) := by decide +kernel
theorem d9_52 : decode (xcode 9) 52 = .ok (.bipush 11, 2) := by decide +kernel
theorem d9_54 : decode (xcode 9) 54 = .ok (.if_icmp .ne 8, 3) := by decide +kernel
theorem d9_57 : decode (xcode 9) 57 = .ok (.aload_n 0, 1) := by decide +kernel
theorem d9_58 : decode (xcode 9) 58 = .ok (.iconst 1, 1) := by decide +kernel
theorem d9_59 : decode (xcode 9) 59 = .ok (.putfield 23, 3) := by decide +kernel
theorem d9_62 : decode (xcode 9) 62 = .ok (.return_, 1) := by decide +kernel
noncomputable def f_Rule_add_b57 (i0 : Nat) (h : xH) : Option xH :=
  xlet (xsI h 2 3 i0 (1 : Int32)) fun h3 =>
  some (h3)
set_option maxHeartbeats 4000000 in
set_option maxRecDepth 100000 in
theorem f_Rule_add_b57_ok {g : xG} {l : Launch} {d : Nat} {i0 : Nat} {h : xH} {o : xH} {R : Option xV} {H' : xH} (hD : 0 ≤ d) (hf : f_Rule_add_b57 i0 h = some o) (K0 : ∀ (h1 : xH), o = h1 → R = none ∧ H' = h1) : xEv g l d 9 57 [(0, xr 2 (some i0))] [] h R H' := by
  unfold f_Rule_add_b57 at hf
  refine xs_aload_n d9_57 rfl ?_
  refine xs_iconst (v := 1) d9_58 (by decide) ?_
  obtain ⟨h3, eh3, hf⟩ := lk_let hf
  refine xe_putz d9_59 ky9 fl65 fk2_3 ft2_3 (Or.inr rfl) eh3 ?_
  obtain ⟨eR, eH⟩ := K0 _ (Option.some.inj hf).symm
  subst eR; subst eH
  exact xs_vret d9_62 rt9
noncomputable def f_Rule_add_b39 (i0 : Nat) (v1 : Int32) (h : xH) : Option xH :=
  if v1 = (7 : Int32) then (
  f_Rule_add_b57 i0 h) else (
  if v1 = (10 : Int32) then (
  f_Rule_add_b57 i0 h) else (
  if v1 = (11 : Int32) then (
  f_Rule_add_b57 i0 h) else (
  some (h))))
set_option maxHeartbeats 4000000 in
set_option maxRecDepth 100000 in
theorem f_Rule_add_b39_ok {g : xG} {l : Launch} {d : Nat} {i0 : Nat} {v1 : Int32} {h : xH} {o : xH} {R : Option xV} {H' : xH} (hD : 0 ≤ d) (hf : f_Rule_add_b39 i0 v1 h = some o) (K0 : ∀ (h1 : xH), o = h1 → R = none ∧ H' = h1) : xEv g l d 9 39 [(0, xr 2 (some i0)), (1, xi v1)] [] h R H' := by
  unfold f_Rule_add_b39 at hf
  refine xs_iload_n d9_39 rfl ?_
  refine xs_bipush (v := 7) d9_40 (by decide) ?_
  rcases lk_if hf with ⟨hc2, hf⟩ | ⟨hc2, hf⟩
  · refine xs_icmp_eq (tgt := 57) d9_42 (by decide) (fun _ => ?_) (fun hn => absurd hc2 hn)
    refine xs_pick [0] rfl ?_
    exact f_Rule_add_b57_ok hD hf K0
  · refine xs_icmp_eq (tgt := 57) d9_42 (by decide) (fun hp => absurd hp hc2) (fun _ => ?_)
    refine xs_iload_n d9_45 rfl ?_
    refine xs_bipush (v := 10) d9_46 (by decide) ?_
    rcases lk_if hf with ⟨hc4, hf⟩ | ⟨hc4, hf⟩
    · refine xs_icmp_eq (tgt := 57) d9_48 (by decide) (fun _ => ?_) (fun hn => absurd hc4 hn)
      refine xs_pick [0] rfl ?_
      exact f_Rule_add_b57_ok hD hf K0
    · refine xs_icmp_eq (tgt := 57) d9_48 (by decide) (fun hp => absurd hp hc4) (fun _ => ?_)
      refine xs_iload_n d9_51 rfl ?_
      refine xs_bipush (v := 11) d9_52 (by decide) ?_
      rcases lk_if hf with ⟨hc5, hf⟩ | ⟨hc5, hf⟩
      · refine xs_icmp_ne (tgt := 62) d9_54 (by decide) (fun _ => ?_) (fun hn => absurd hc5 hn)
        refine xs_pick [0] rfl ?_
        exact f_Rule_add_b57_ok hD hf K0
      · refine xs_icmp_ne (tgt := 62) d9_54 (by decide) (fun hp => absurd hp hc5) (fun _ => ?_)
        obtain ⟨eR, eH⟩ := K0 _ (Option.some.inj hf).symm
        subst eR; subst eH
        exact xs_vret d9_62 rt9
noncomputable def f_Rule_add_e (i0 : Nat) (v1 : Int32) (h : xH) : Option xH :=
  if (h.1 2 2 i0) < (0 : Int32) then (
  f_Rule_add_b39 i0 v1 h) else (
  if (400 : Int32) ≤ (h.1 2 2 i0) then (
  f_Rule_add_b39 i0 v1 h) else (
  if xib (h.1 2 2 i0) 400 then (
  xlet (xsA h 18 i0 (upd (h.2.2.2.1 18 i0) (h.1 2 2 i0).toNatClampNeg v1)) fun h8 =>
  xlet (xsI h8 2 2 i0 ((h8.1 2 2 i0) + (1 : Int32))) fun h9 =>
  f_Rule_add_b39 i0 v1 h9) else none))
set_option maxHeartbeats 4000000 in
set_option maxRecDepth 100000 in
theorem f_Rule_add_e_ok {g : xG} {l : Launch} {d : Nat} {i0 : Nat} {v1 : Int32} {h : xH} {o : xH} {R : Option xV} {H' : xH} (hD : 0 ≤ d) (hf : f_Rule_add_e i0 v1 h = some o) (K0 : ∀ (h1 : xH), o = h1 → R = none ∧ H' = h1) : xEv g l d 9 0 [(0, xr 2 (some i0)), (1, xi v1)] [] h R H' := by
  unfold f_Rule_add_e at hf
  refine xs_aload_n d9_0 rfl ?_
  refine xe_geti d9_1 ky9 fl64 fk2_2 ?_
  rcases lk_if hf with ⟨hc1, hf⟩ | ⟨hc1, hf⟩
  · refine xs_if_lt (tgt := 39) d9_4 (by decide) (fun _ => ?_) (fun hn => absurd hc1 hn)
    exact f_Rule_add_b39_ok hD hf K0
  · refine xs_if_lt (tgt := 39) d9_4 (by decide) (fun hp => absurd hp hc1) (fun _ => ?_)
    refine xs_aload_n d9_7 rfl ?_
    refine xe_geti d9_8 ky9 fl64 fk2_2 ?_
    refine xs_aload_n d9_11 rfl ?_
    refine xe_getc (j := i0) d9_12 ky9 fl62 fk2_0 (by omega) ?_
    refine xe_alen (v := 400) d9_15 (by decide) ak18 (by decide) (by decide) ?_
    rcases lk_if hf with ⟨hc6, hf⟩ | ⟨hc6, hf⟩
    · refine xs_icmp_ge (tgt := 39) d9_16 (by decide) (fun _ => ?_) (fun hn => absurd hc6 hn)
      exact f_Rule_add_b39_ok hD hf K0
    · refine xs_icmp_ge (tgt := 39) d9_16 (by decide) (fun hp => absurd hp hc6) (fun _ => ?_)
      refine xs_aload_n d9_19 rfl ?_
      refine xe_getc (j := i0) d9_20 ky9 fl62 fk2_0 (by omega) ?_
      refine xs_aload_n d9_23 rfl ?_
      refine xe_geti d9_24 ky9 fl64 fk2_2 ?_
      refine xs_iload_n d9_27 rfl ?_
      obtain ⟨hin7, hf⟩ := lk_g hf
      obtain ⟨h8, eh8, hf⟩ := lk_let hf
      refine xe_iast d9_28 (by decide) ak18 hin7  eh8 ?_
      refine xs_aload_n d9_29 rfl ?_
      refine xs_dup d9_30 rfl ?_
      refine xe_geti d9_31 ky9 fl64 fk2_2 ?_
      refine xs_iconst (v := 1) d9_34 (by decide) ?_
      refine xs_iadd d9_35 ?_
      obtain ⟨h9, eh9, hf⟩ := lk_let hf
      refine xe_puti d9_36 ky9 fl64 fk2_2 ft2_2 eh9 ?_
      exact f_Rule_add_b39_ok hD hf K0
noncomputable def f_Rule_add (i0 : Nat) (v1 : Int32) (h : xH) : Option xH := f_Rule_add_e i0 v1 h
theorem f_Rule_add_ok {g : xG} {l : Launch} {d : Nat} {i0 : Nat} {v1 : Int32} {h : xH} {h1 : xH} (hD : 0 ≤ d) (hf : f_Rule_add i0 v1 h = some h1) : xC g l d 9 [xr 2 (some i0), xi v1] h none h1 :=
  xC_of2 (by decide) mx9 (Nat.le_of_ble_eq_true rfl) (f_Rule_add_e_ok hD hf (fun _ e => ⟨rfl, e⟩))
theorem d12_0 : decode (xcode 12) 0 = .ok (.iload_n 0, 1) := by decide +kernel
theorem d12_1 : decode (xcode 12) 1 = .ok (.tableswitch 163 12 22 #[59, 63, 67, 71, 85, 99, 111, 123, 135, 147, 159], 59) := by decide +kernel
theorem d12_60 : decode (xcode 12) 60 = .ok (.lload_n 1, 1) := by decide +kernel
theorem d12_61 : decode (xcode 12) 61 = .ok (.lload_n 3, 1) := by decide +kernel
theorem d12_62 : decode (xcode 12) 62 = .ok (.ladd, 1) := by decide +kernel
theorem d12_63 : decode (xcode 12) 63 = .ok (.lreturn, 1) := by decide +kernel
theorem d12_64 : decode (xcode 12) 64 = .ok (.lload_n 1, 1) := by decide +kernel
theorem d12_65 : decode (xcode 12) 65 = .ok (.lload_n 3, 1) := by decide +kernel
theorem d12_66 : decode (xcode 12) 66 = .ok (.lsub, 1) := by decide +kernel
theorem d12_67 : decode (xcode 12) 67 = .ok (.lreturn, 1) := by decide +kernel
theorem d12_68 : decode (xcode 12) 68 = .ok (.lload_n 1, 1) := by decide +kernel
theorem d12_69 : decode (xcode 12) 69 = .ok (.lload_n 3, 1) := by decide +kernel
theorem d12_70 : decode (xcode 12) 70 = .ok (.lmul, 1) := by decide +kernel
theorem d12_71 : decode (xcode 12) 71 = .ok (.lreturn, 1) := by decide +kernel
theorem d12_72 : decode (xcode 12) 72 = .ok (.lload_n 3, 1) := by decide +kernel
theorem d12_73 : decode (xcode 12) 73 = .ok (.lconst 0, 1) := by decide +kernel
theorem d12_74 : decode (xcode 12) 74 = .ok (.lcmp, 1) := by decide +kernel
theorem d12_75 : decode (xcode 12) 75 = .ok (.ifCond .ne 7, 3) := by decide +kernel
theorem d12_78 : decode (xcode 12) 78 = .ok (.lconst 0, 1) := by decide +kernel
theorem d12_79 : decode (xcode 12) 79 = .ok (.goto 6, 3) := by decide +kernel
theorem d12_82 : decode (xcode 12) 82 = .ok (.lload_n 1, 1) := by decide +kernel
theorem d12_83 : decode (xcode 12) 83 = .ok (.lload_n 3, 1) := by decide +kernel
theorem d12_84 : decode (xcode 12) 84 = .ok (.ldiv, 1) := by decide +kernel
theorem d12_85 : decode (xcode 12) 85 = .ok (.lreturn, 1) := by decide +kernel
theorem d12_86 : decode (xcode 12) 86 = .ok (.lload_n 3, 1) := by decide +kernel
theorem d12_87 : decode (xcode 12) 87 = .ok (.lconst 0, 1) := by decide +kernel
theorem d12_88 : decode (xcode 12) 88 = .ok (.lcmp, 1) := by decide +kernel
theorem d12_89 : decode (xcode 12) 89 = .ok (.ifCond .ne 7, 3) := by decide +kernel
theorem d12_92 : decode (xcode 12) 92 = .ok (.lconst 0, 1) := by decide +kernel
theorem d12_93 : decode (xcode 12) 93 = .ok (.goto 6, 3) := by decide +kernel
theorem d12_96 : decode (xcode 12) 96 = .ok (.lload_n 1, 1) := by decide +kernel
theorem d12_97 : decode (xcode 12) 97 = .ok (.lload_n 3, 1) := by decide +kernel
theorem d12_98 : decode (xcode 12) 98 = .ok (.lrem, 1) := by decide +kernel
theorem d12_99 : decode (xcode 12) 99 = .ok (.lreturn, 1) := by decide +kernel
theorem d12_100 : decode (xcode 12) 100 = .ok (.lload_n 1, 1) := by decide +kernel
theorem d12_101 : decode (xcode 12) 101 = .ok (.lload_n 3, 1) := by decide +kernel
theorem d12_102 : decode (xcode 12) 102 = .ok (.lcmp, 1) := by decide +kernel
theorem d12_103 : decode (xcode 12) 103 = .ok (.ifCond .ge 7, 3) := by decide +kernel
theorem d12_106 : decode (xcode 12) 106 = .ok (.lconst 1, 1) := by decide +kernel
theorem d12_107 : decode (xcode 12) 107 = .ok (.goto 4, 3) := by decide +kernel
theorem d12_110 : decode (xcode 12) 110 = .ok (.lconst 0, 1) := by decide +kernel
theorem d12_111 : decode (xcode 12) 111 = .ok (.lreturn, 1) := by decide +kernel
theorem d12_112 : decode (xcode 12) 112 = .ok (.lload_n 1, 1) := by decide +kernel
theorem d12_113 : decode (xcode 12) 113 = .ok (.lload_n 3, 1) := by decide +kernel
theorem d12_114 : decode (xcode 12) 114 = .ok (.lcmp, 1) := by decide +kernel
theorem d12_115 : decode (xcode 12) 115 = .ok (.ifCond .gt 7, 3) := by decide +kernel
theorem d12_118 : decode (xcode 12) 118 = .ok (.lconst 1, 1) := by decide +kernel
theorem d12_119 : decode (xcode 12) 119 = .ok (.goto 4, 3) := by decide +kernel
theorem d12_122 : decode (xcode 12) 122 = .ok (.lconst 0, 1) := by decide +kernel
theorem d12_123 : decode (xcode 12) 123 = .ok (.lreturn, 1) := by decide +kernel
theorem d12_124 : decode (xcode 12) 124 = .ok (.lload_n 1, 1) := by decide +kernel
theorem d12_125 : decode (xcode 12) 125 = .ok (.lload_n 3, 1) := by decide +kernel
theorem d12_126 : decode (xcode 12) 126 = .ok (.lcmp, 1) := by decide +kernel
theorem d12_127 : decode (xcode 12) 127 = .ok (.ifCond .ne 7, 3) := by decide +kernel
theorem d12_130 : decode (xcode 12) 130 = .ok (.lconst 1, 1) := by decide +kernel
theorem d12_131 : decode (xcode 12) 131 = .ok (.goto 4, 3) := by decide +kernel
theorem d12_134 : decode (xcode 12) 134 = .ok (.lconst 0, 1) := by decide +kernel
theorem d12_135 : decode (xcode 12) 135 = .ok (.lreturn, 1) := by decide +kernel
theorem d12_136 : decode (xcode 12) 136 = .ok (.lload_n 1, 1) := by decide +kernel
theorem d12_137 : decode (xcode 12) 137 = .ok (.lload_n 3, 1) := by decide +kernel
theorem d12_138 : decode (xcode 12) 138 = .ok (.lcmp, 1) := by decide +kernel
theorem d12_139 : decode (xcode 12) 139 = .ok (.ifCond .lt 7, 3) := by decide +kernel
theorem d12_142 : decode (xcode 12) 142 = .ok (.lconst 1, 1) := by decide +kernel
theorem d12_143 : decode (xcode 12) 143 = .ok (.goto 4, 3) := by decide +kernel
theorem d12_146 : decode (xcode 12) 146 = .ok (.lconst 0, 1) := by decide +kernel
theorem d12_147 : decode (xcode 12) 147 = .ok (.lreturn, 1) := by decide +kernel
theorem d12_148 : decode (xcode 12) 148 = .ok (.lload_n 1, 1) := by decide +kernel
theorem d12_149 : decode (xcode 12) 149 = .ok (.lload_n 3, 1) := by decide +kernel
theorem d12_150 : decode (xcode 12) 150 = .ok (.lcmp, 1) := by decide +kernel
theorem d12_151 : decode (xcode 12) 151 = .ok (.ifCond .le 7, 3) := by decide +kernel
theorem d12_154 : decode (xcode 12) 154 = .ok (.lconst 1, 1) := by decide +kernel
theorem d12_155 : decode (xcode 12) 155 = .ok (.goto 4, 3) := by decide +kernel
theorem d12_158 : decode (xcode 12) 158 = .ok (.lconst 0, 1) := by decide +kernel
theorem d12_159 : decode (xcode 12) 159 = .ok (.lreturn, 1) := by decide +kernel
theorem d12_160 : decode (xcode 12) 160 = .ok (.lload_n 1, 1) := by decide +kernel
theorem d12_161 : decode (xcode 12) 161 = .ok (.lload_n 3, 1) := by decide +kernel
theorem d12_162 : decode (xcode 12) 162 = .ok (.land, 1) := by decide +kernel
theorem d12_163 : decode (xcode 12) 163 = .ok (.lreturn, 1) := by decide +kernel
theorem d12_164 : decode (xcode 12) 164 = .ok (.lload_n 1, 1) := by decide +kernel
theorem d12_165 : decode (xcode 12) 165 = .ok (.lload_n 3, 1) := by decide +kernel
theorem d12_166 : decode (xcode 12) 166 = .ok (.lor, 1) := by decide +kernel
theorem d12_167 : decode (xcode 12) 167 = .ok (.lreturn, 1) := by decide +kernel
noncomputable def f_Rule_joined_e (v0 : Int32) (v1 : Int64) (v3 : Int64) (h : xH) : Option Int64 :=
  if v0 = (12 : Int32) then (
  some (v1 + v3)) else (
  if v0 = (13 : Int32) then (
  some (v1 - v3)) else (
  if v0 = (14 : Int32) then (
  some (v1 * v3)) else (
  if v0 = (15 : Int32) then (
  if (lg_cmp v3 (0 : Int64)) = (0 : Int32) then (
  some ((0 : Int64))) else (
  if ¬ v3 = 0 then (
  some (v1 / v3)) else none)) else (
  if v0 = (16 : Int32) then (
  if (lg_cmp v3 (0 : Int64)) = (0 : Int32) then (
  some ((0 : Int64))) else (
  if ¬ v3 = 0 then (
  some (v1 - v1 / v3 * v3)) else none)) else (
  if v0 = (17 : Int32) then (
  if (0 : Int32) ≤ (lg_cmp v1 v3) then (
  some ((0 : Int64))) else (
  some ((1 : Int64)))) else (
  if v0 = (18 : Int32) then (
  if (0 : Int32) < (lg_cmp v1 v3) then (
  some ((0 : Int64))) else (
  some ((1 : Int64)))) else (
  if v0 = (19 : Int32) then (
  if (lg_cmp v1 v3) = (0 : Int32) then (
  some ((1 : Int64))) else (
  some ((0 : Int64)))) else (
  if v0 = (20 : Int32) then (
  if (lg_cmp v1 v3) < (0 : Int32) then (
  some ((0 : Int64))) else (
  some ((1 : Int64)))) else (
  if v0 = (21 : Int32) then (
  if (lg_cmp v1 v3) ≤ (0 : Int32) then (
  some ((0 : Int64))) else (
  some ((1 : Int64)))) else (
  if v0 = (22 : Int32) then (
  some (v1 &&& v3)) else (
  some (v1 ||| v3))))))))))))
set_option maxHeartbeats 4000000 in
set_option maxRecDepth 100000 in
theorem f_Rule_joined_e_ok {g : xG} {l : Launch} {d : Nat} {v0 : Int32} {v1 : Int64} {v3 : Int64} {h : xH} {o : Int64} {R : Option xV} (hD : 0 ≤ d) (hf : f_Rule_joined_e v0 v1 v3 h = some o) (K0 : ∀ (a : Int64), o = a → R = some (xl a)) : xEv g l d 12 0 [(0, xi v0), (1, xl v1), (3, xl v3)] [] h R h := by
  unfold f_Rule_joined_e at hf
  refine xs_iload_n d12_0 rfl ?_
  rcases lk_if hf with ⟨hc1, hf⟩ | ⟨hc1, hf⟩
  · refine xs_tableIn (tgt := 60) d12_1 (by rw [hc1]; decide) (by rw [hc1]; decide) (by rw [hc1]; first | done | rfl) (by decide) ?_
    refine xs_lload_n d12_60 rfl ?_
    refine xs_lload_n d12_61 rfl ?_
    refine xs_ladd d12_62 ?_
    obtain eR := K0 _ (Option.some.inj hf).symm
    subst eR
    exact xs_lret d12_63 rt12
  · skip
    rcases lk_if hf with ⟨hc2, hf⟩ | ⟨hc2, hf⟩
    · refine xs_tableIn (tgt := 64) d12_1 (by rw [hc2]; decide) (by rw [hc2]; decide) (by rw [hc2]; first | done | rfl) (by decide) ?_
      refine xs_lload_n d12_64 rfl ?_
      refine xs_lload_n d12_65 rfl ?_
      refine xs_lsub d12_66 ?_
      obtain eR := K0 _ (Option.some.inj hf).symm
      subst eR
      exact xs_lret d12_67 rt12
    · skip
      rcases lk_if hf with ⟨hc3, hf⟩ | ⟨hc3, hf⟩
      · refine xs_tableIn (tgt := 68) d12_1 (by rw [hc3]; decide) (by rw [hc3]; decide) (by rw [hc3]; first | done | rfl) (by decide) ?_
        refine xs_lload_n d12_68 rfl ?_
        refine xs_lload_n d12_69 rfl ?_
        refine xs_lmul d12_70 ?_
        obtain eR := K0 _ (Option.some.inj hf).symm
        subst eR
        exact xs_lret d12_71 rt12
      · skip
        rcases lk_if hf with ⟨hc4, hf⟩ | ⟨hc4, hf⟩
        · refine xs_tableIn (tgt := 72) d12_1 (by rw [hc4]; decide) (by rw [hc4]; decide) (by rw [hc4]; first | done | rfl) (by decide) ?_
          refine xs_lload_n d12_72 rfl ?_
          refine xs_lconst (v := 0) d12_73 (by decide) ?_
          refine xs_lcmp d12_74 ?_
          rcases lk_if hf with ⟨hc5, hf⟩ | ⟨hc5, hf⟩
          · refine xs_if_ne (tgt := 82) d12_75 (by decide) (fun _ => ?_) (fun hn => absurd hc5 hn)
            refine xs_lconst (v := 0) d12_78 (by decide) ?_
            refine xs_goto (tgt := 85) d12_79 (by decide) ?_
            obtain eR := K0 _ (Option.some.inj hf).symm
            subst eR
            exact xs_lret d12_85 rt12
          · refine xs_if_ne (tgt := 82) d12_75 (by decide) (fun hp => absurd hp hc5) (fun _ => ?_)
            refine xs_lload_n d12_82 rfl ?_
            refine xs_lload_n d12_83 rfl ?_
            obtain ⟨hb6, hf⟩ := lk_g hf
            refine xs_ldiv d12_84 hb6 ?_
            obtain eR := K0 _ (Option.some.inj hf).symm
            subst eR
            exact xs_lret d12_85 rt12
        · skip
          rcases lk_if hf with ⟨hc7, hf⟩ | ⟨hc7, hf⟩
          · refine xs_tableIn (tgt := 86) d12_1 (by rw [hc7]; decide) (by rw [hc7]; decide) (by rw [hc7]; first | done | rfl) (by decide) ?_
            refine xs_lload_n d12_86 rfl ?_
            refine xs_lconst (v := 0) d12_87 (by decide) ?_
            refine xs_lcmp d12_88 ?_
            rcases lk_if hf with ⟨hc8, hf⟩ | ⟨hc8, hf⟩
            · refine xs_if_ne (tgt := 96) d12_89 (by decide) (fun _ => ?_) (fun hn => absurd hc8 hn)
              refine xs_lconst (v := 0) d12_92 (by decide) ?_
              refine xs_goto (tgt := 99) d12_93 (by decide) ?_
              obtain eR := K0 _ (Option.some.inj hf).symm
              subst eR
              exact xs_lret d12_99 rt12
            · refine xs_if_ne (tgt := 96) d12_89 (by decide) (fun hp => absurd hp hc8) (fun _ => ?_)
              refine xs_lload_n d12_96 rfl ?_
              refine xs_lload_n d12_97 rfl ?_
              obtain ⟨hb9, hf⟩ := lk_g hf
              refine xs_lrem d12_98 hb9 ?_
              obtain eR := K0 _ (Option.some.inj hf).symm
              subst eR
              exact xs_lret d12_99 rt12
          · skip
            rcases lk_if hf with ⟨hc10, hf⟩ | ⟨hc10, hf⟩
            · refine xs_tableIn (tgt := 100) d12_1 (by rw [hc10]; decide) (by rw [hc10]; decide) (by rw [hc10]; first | done | rfl) (by decide) ?_
              refine xs_lload_n d12_100 rfl ?_
              refine xs_lload_n d12_101 rfl ?_
              refine xs_lcmp d12_102 ?_
              rcases lk_if hf with ⟨hc11, hf⟩ | ⟨hc11, hf⟩
              · refine xs_if_ge (tgt := 110) d12_103 (by decide) (fun _ => ?_) (fun hn => absurd hc11 hn)
                refine xs_lconst (v := 0) d12_110 (by decide) ?_
                obtain eR := K0 _ (Option.some.inj hf).symm
                subst eR
                exact xs_lret d12_111 rt12
              · refine xs_if_ge (tgt := 110) d12_103 (by decide) (fun hp => absurd hp hc11) (fun _ => ?_)
                refine xs_lconst (v := 1) d12_106 (by decide) ?_
                refine xs_goto (tgt := 111) d12_107 (by decide) ?_
                obtain eR := K0 _ (Option.some.inj hf).symm
                subst eR
                exact xs_lret d12_111 rt12
            · skip
              rcases lk_if hf with ⟨hc12, hf⟩ | ⟨hc12, hf⟩
              · refine xs_tableIn (tgt := 112) d12_1 (by rw [hc12]; decide) (by rw [hc12]; decide) (by rw [hc12]; first | done | rfl) (by decide) ?_
                refine xs_lload_n d12_112 rfl ?_
                refine xs_lload_n d12_113 rfl ?_
                refine xs_lcmp d12_114 ?_
                rcases lk_if hf with ⟨hc13, hf⟩ | ⟨hc13, hf⟩
                · refine xs_if_gt (tgt := 122) d12_115 (by decide) (fun _ => ?_) (fun hn => absurd hc13 hn)
                  refine xs_lconst (v := 0) d12_122 (by decide) ?_
                  obtain eR := K0 _ (Option.some.inj hf).symm
                  subst eR
                  exact xs_lret d12_123 rt12
                · refine xs_if_gt (tgt := 122) d12_115 (by decide) (fun hp => absurd hp hc13) (fun _ => ?_)
                  refine xs_lconst (v := 1) d12_118 (by decide) ?_
                  refine xs_goto (tgt := 123) d12_119 (by decide) ?_
                  obtain eR := K0 _ (Option.some.inj hf).symm
                  subst eR
                  exact xs_lret d12_123 rt12
              · skip
                rcases lk_if hf with ⟨hc14, hf⟩ | ⟨hc14, hf⟩
                · refine xs_tableIn (tgt := 124) d12_1 (by rw [hc14]; decide) (by rw [hc14]; decide) (by rw [hc14]; first | done | rfl) (by decide) ?_
                  refine xs_lload_n d12_124 rfl ?_
                  refine xs_lload_n d12_125 rfl ?_
                  refine xs_lcmp d12_126 ?_
                  rcases lk_if hf with ⟨hc15, hf⟩ | ⟨hc15, hf⟩
                  · refine xs_if_ne (tgt := 134) d12_127 (by decide) (fun _ => ?_) (fun hn => absurd hc15 hn)
                    refine xs_lconst (v := 1) d12_130 (by decide) ?_
                    refine xs_goto (tgt := 135) d12_131 (by decide) ?_
                    obtain eR := K0 _ (Option.some.inj hf).symm
                    subst eR
                    exact xs_lret d12_135 rt12
                  · refine xs_if_ne (tgt := 134) d12_127 (by decide) (fun hp => absurd hp hc15) (fun _ => ?_)
                    refine xs_lconst (v := 0) d12_134 (by decide) ?_
                    obtain eR := K0 _ (Option.some.inj hf).symm
                    subst eR
                    exact xs_lret d12_135 rt12
                · skip
                  rcases lk_if hf with ⟨hc16, hf⟩ | ⟨hc16, hf⟩
                  · refine xs_tableIn (tgt := 136) d12_1 (by rw [hc16]; decide) (by rw [hc16]; decide) (by rw [hc16]; first | done | rfl) (by decide) ?_
                    refine xs_lload_n d12_136 rfl ?_
                    refine xs_lload_n d12_137 rfl ?_
                    refine xs_lcmp d12_138 ?_
                    rcases lk_if hf with ⟨hc17, hf⟩ | ⟨hc17, hf⟩
                    · refine xs_if_lt (tgt := 146) d12_139 (by decide) (fun _ => ?_) (fun hn => absurd hc17 hn)
                      refine xs_lconst (v := 0) d12_146 (by decide) ?_
                      obtain eR := K0 _ (Option.some.inj hf).symm
                      subst eR
                      exact xs_lret d12_147 rt12
                    · refine xs_if_lt (tgt := 146) d12_139 (by decide) (fun hp => absurd hp hc17) (fun _ => ?_)
                      refine xs_lconst (v := 1) d12_142 (by decide) ?_
                      refine xs_goto (tgt := 147) d12_143 (by decide) ?_
                      obtain eR := K0 _ (Option.some.inj hf).symm
                      subst eR
                      exact xs_lret d12_147 rt12
                  · skip
                    rcases lk_if hf with ⟨hc18, hf⟩ | ⟨hc18, hf⟩
                    · refine xs_tableIn (tgt := 148) d12_1 (by rw [hc18]; decide) (by rw [hc18]; decide) (by rw [hc18]; first | done | rfl) (by decide) ?_
                      refine xs_lload_n d12_148 rfl ?_
                      refine xs_lload_n d12_149 rfl ?_
                      refine xs_lcmp d12_150 ?_
                      rcases lk_if hf with ⟨hc19, hf⟩ | ⟨hc19, hf⟩
                      · refine xs_if_le (tgt := 158) d12_151 (by decide) (fun _ => ?_) (fun hn => absurd hc19 hn)
                        refine xs_lconst (v := 0) d12_158 (by decide) ?_
                        obtain eR := K0 _ (Option.some.inj hf).symm
                        subst eR
                        exact xs_lret d12_159 rt12
                      · refine xs_if_le (tgt := 158) d12_151 (by decide) (fun hp => absurd hp hc19) (fun _ => ?_)
                        refine xs_lconst (v := 1) d12_154 (by decide) ?_
                        refine xs_goto (tgt := 159) d12_155 (by decide) ?_
                        obtain eR := K0 _ (Option.some.inj hf).symm
                        subst eR
                        exact xs_lret d12_159 rt12
                    · skip
                      rcases lk_if hf with ⟨hc20, hf⟩ | ⟨hc20, hf⟩
                      · refine xs_tableIn (tgt := 160) d12_1 (by rw [hc20]; decide) (by rw [hc20]; decide) (by rw [hc20]; first | done | rfl) (by decide) ?_
                        refine xs_lload_n d12_160 rfl ?_
                        refine xs_lload_n d12_161 rfl ?_
                        refine xs_land d12_162 ?_
                        obtain eR := K0 _ (Option.some.inj hf).symm
                        subst eR
                        exact xs_lret d12_163 rt12
                      · skip
                        refine xs_tableOut (tgt := 164) d12_1 (xsw_out (fun k q1 q2 => ?_)) (by decide) ?_
                        · rcases (show k = 12 ∨ k = 13 ∨ k = 14 ∨ k = 15 ∨ k = 16 ∨ k = 17 ∨ k = 18 ∨ k = 19 ∨ k = 20 ∨ k = 21 ∨ k = 22 by omega) with rfl | rfl | rfl | rfl | rfl | rfl | rfl | rfl | rfl | rfl | rfl
                          · exact fun e => hc1 (e.trans (by decide))
                          · exact fun e => hc2 (e.trans (by decide))
                          · exact fun e => hc3 (e.trans (by decide))
                          · exact fun e => hc4 (e.trans (by decide))
                          · exact fun e => hc7 (e.trans (by decide))
                          · exact fun e => hc10 (e.trans (by decide))
                          · exact fun e => hc12 (e.trans (by decide))
                          · exact fun e => hc14 (e.trans (by decide))
                          · exact fun e => hc16 (e.trans (by decide))
                          · exact fun e => hc18 (e.trans (by decide))
                          · exact fun e => hc20 (e.trans (by decide))
                        · skip
                          refine xs_lload_n d12_164 rfl ?_
                          refine xs_lload_n d12_165 rfl ?_
                          refine xs_lor d12_166 ?_
                          obtain eR := K0 _ (Option.some.inj hf).symm
                          subst eR
                          exact xs_lret d12_167 rt12
noncomputable def f_Rule_joined (v0 : Int32) (v1 : Int64) (v3 : Int64) (h : xH) : Option Int64 := f_Rule_joined_e v0 v1 v3 h
theorem f_Rule_joined_ok {g : xG} {l : Launch} {d : Nat} {v0 : Int32} {v1 : Int64} {v3 : Int64} {h : xH} {r : Int64} (hD : 0 ≤ d) (hf : f_Rule_joined v0 v1 v3 h = some r) : xC g l d 12 [xi v0, xl v1, xl v3] h (some (xl r)) h :=
  xC_of2 (by decide) mx12 (Nat.le_of_ble_eq_true rfl) (f_Rule_joined_e_ok hD hf (fun _ e => by rw [e]))
theorem d68_0 : decode (xcode 68) 0 = .ok (.aload_n 0, 1) := by decide +kernel
theorem d68_1 : decode (xcode 68) 1 = .ok (.getfield 42, 3) := by decide +kernel
theorem d68_4 : decode (xcode 68) 4 = .ok (.iconst 1, 1) := by decide +kernel
theorem d68_5 : decode (xcode 68) 5 = .ok (.iadd, 1) := by decide +kernel
theorem d68_6 : decode (xcode 68) 6 = .ok (.ifCond .lt 62, 3) := by decide +kernel
theorem d68_9 : decode (xcode 68) 9 = .ok (.aload_n 0, 1) := by decide +kernel
theorem d68_10 : decode (xcode 68) 10 = .ok (.getfield 42, 3) := by decide +kernel
theorem d68_13 : decode (xcode 68) 13 = .ok (.iconst 1, 1) := by decide +kernel
theorem d68_14 : decode (xcode 68) 14 = .ok (.iadd, 1) := by decide +kernel
theorem d68_15 : decode (xcode 68) 15 = .ok (.aload_n 0, 1) := by decide +kernel
theorem d68_16 : decode (xcode 68) 16 = .ok (.getfield 36, 3) := by decide +kernel
theorem d68_19 : decode (xcode 68) 19 = .ok (.if_icmp .ge 49, 3) := by decide +kernel
theorem d68_22 : decode (xcode 68) 22 = .ok (.aload_n 0, 1) := by decide +kernel
theorem d68_23 : decode (xcode 68) 23 = .ok (.getfield 42, 3) := by decide +kernel
theorem d68_26 : decode (xcode 68) 26 = .ok (.sipush 400, 3) := by decide +kernel
theorem d68_29 : decode (xcode 68) 29 = .ok (.if_icmp .ge 39, 3) := by decide +kernel
theorem d68_32 : decode (xcode 68) 32 = .ok (.aload_n 0, 1) := by decide +kernel
theorem d68_33 : decode (xcode 68) 33 = .ok (.dup, 1) := by decide +kernel
theorem d68_34 : decode (xcode 68) 34 = .ok (.getfield 42, 3) := by decide +kernel
theorem d68_37 : decode (xcode 68) 37 = .ok (.iconst 1, 1) := by decide +kernel
theorem d68_38 : decode (xcode 68) 38 = .ok (.iadd, 1) := by decide +kernel
theorem d68_39 : decode (xcode 68) 39 = .ok (.putfield 42, 3) := by decide +kernel
theorem d68_42 : decode (xcode 68) 42 = .ok (.aload_n 0, 1) := by decide +kernel
theorem d68_43 : decode (xcode 68) 43 = .ok (.aload_n 0, 1) := by decide +kernel
theorem d68_44 : decode (xcode 68) 44 = .ok (.getfield 15, 3) := by decide +kernel
theorem d68_47 : decode (xcode 68) 47 = .ok (.aload_n 0, 1) := by decide +kernel
theorem d68_48 : decode (xcode 68) 48 = .ok (.getfield 42, 3) := by decide +kernel
theorem d68_51 : decode (xcode 68) 51 = .ok (.iaload, 1) := by decide +kernel
theorem d68_52 : decode (xcode 68) 52 = .ok (.putfield 84, 3) := by decide +kernel
theorem d68_55 : decode (xcode 68) 55 = .ok (.aload_n 0, 1) := by decide +kernel
theorem d68_56 : decode (xcode 68) 56 = .ok (.aload_n 0, 1) := by decide +kernel
theorem d68_57 : decode (xcode 68) 57 = .ok (.getfield 22, 3) := by decide +kernel
theorem d68_60 : decode (xcode 68) 60 = .ok (.aload_n 0, 1) := by decide +kernel
theorem d68_61 : decode (xcode 68) 61 = .ok (.getfield 42, 3) := by decide +kernel
theorem d68_64 : decode (xcode 68) 64 = .ok (.iaload, 1) := by decide +kernel
theorem d68_65 : decode (xcode 68) 65 = .ok (.putfield 87, 3) := by decide +kernel
theorem d68_68 : decode (xcode 68) 68 = .ok (.return_, 1) := by decide +kernel
noncomputable def f_Tape_goOn_e (h : xH) : Option xH :=
  if ((h.1 7 5 0) + (1 : Int32)) < (0 : Int32) then (
  some (h)) else (
  if (h.1 7 4 0) ≤ ((h.1 7 5 0) + (1 : Int32)) then (
  some (h)) else (
  if (400 : Int32) ≤ (h.1 7 5 0) then (
  some (h)) else (
  xlet (xsI h 7 5 0 ((h.1 7 5 0) + (1 : Int32))) fun h4 =>
  if xib (h4.1 7 5 0) 401 then (
  xlet (xsI h4 7 7 0 (h4.2.2.2.1 34 0 (h4.1 7 5 0).toNatClampNeg)) fun h6 =>
  if xib (h6.1 7 5 0) 401 then (
  xlet (xsI h6 7 8 0 (h6.2.2.2.1 36 0 (h6.1 7 5 0).toNatClampNeg)) fun h8 =>
  some (h8)) else none) else none)))
set_option maxHeartbeats 4000000 in
set_option maxRecDepth 100000 in
theorem f_Tape_goOn_e_ok {g : xG} {l : Launch} {d : Nat} {h : xH} {o : xH} {R : Option xV} {H' : xH} (hD : 0 ≤ d) (hf : f_Tape_goOn_e h = some o) (K0 : ∀ (h1 : xH), o = h1 → R = none ∧ H' = h1) : xEv g l d 68 0 [(0, xr 7 (some 0))] [] h R H' := by
  unfold f_Tape_goOn_e at hf
  refine xs_aload_n d68_0 rfl ?_
  refine xe_geti d68_1 ky68 fl5 fk7_5 ?_
  refine xs_iconst (v := 1) d68_4 (by decide) ?_
  refine xs_iadd d68_5 ?_
  rcases lk_if hf with ⟨hc1, hf⟩ | ⟨hc1, hf⟩
  · refine xs_if_lt (tgt := 68) d68_6 (by decide) (fun _ => ?_) (fun hn => absurd hc1 hn)
    obtain ⟨eR, eH⟩ := K0 _ (Option.some.inj hf).symm
    subst eR; subst eH
    exact xs_vret d68_68 rt68
  · refine xs_if_lt (tgt := 68) d68_6 (by decide) (fun hp => absurd hp hc1) (fun _ => ?_)
    refine xs_aload_n d68_9 rfl ?_
    refine xe_geti d68_10 ky68 fl5 fk7_5 ?_
    refine xs_iconst (v := 1) d68_13 (by decide) ?_
    refine xs_iadd d68_14 ?_
    refine xs_aload_n d68_15 rfl ?_
    refine xe_geti d68_16 ky68 fl4 fk7_4 ?_
    rcases lk_if hf with ⟨hc2, hf⟩ | ⟨hc2, hf⟩
    · refine xs_icmp_ge (tgt := 68) d68_19 (by decide) (fun _ => ?_) (fun hn => absurd hc2 hn)
      obtain ⟨eR, eH⟩ := K0 _ (Option.some.inj hf).symm
      subst eR; subst eH
      exact xs_vret d68_68 rt68
    · refine xs_icmp_ge (tgt := 68) d68_19 (by decide) (fun hp => absurd hp hc2) (fun _ => ?_)
      refine xs_aload_n d68_22 rfl ?_
      refine xe_geti d68_23 ky68 fl5 fk7_5 ?_
      refine xs_sipush (v := 400) d68_26 (by decide) ?_
      rcases lk_if hf with ⟨hc3, hf⟩ | ⟨hc3, hf⟩
      · refine xs_icmp_ge (tgt := 68) d68_29 (by decide) (fun _ => ?_) (fun hn => absurd hc3 hn)
        obtain ⟨eR, eH⟩ := K0 _ (Option.some.inj hf).symm
        subst eR; subst eH
        exact xs_vret d68_68 rt68
      · refine xs_icmp_ge (tgt := 68) d68_29 (by decide) (fun hp => absurd hp hc3) (fun _ => ?_)
        refine xs_aload_n d68_32 rfl ?_
        refine xs_dup d68_33 rfl ?_
        refine xe_geti d68_34 ky68 fl5 fk7_5 ?_
        refine xs_iconst (v := 1) d68_37 (by decide) ?_
        refine xs_iadd d68_38 ?_
        obtain ⟨h4, eh4, hf⟩ := lk_let hf
        refine xe_puti d68_39 ky68 fl5 fk7_5 ft7_5 eh4 ?_
        refine xs_aload_n d68_42 rfl ?_
        refine xs_aload_n d68_43 rfl ?_
        refine xe_getc (j := 0) d68_44 ky68 fl1 fk7_1 rfl ?_
        refine xs_aload_n d68_47 rfl ?_
        refine xe_geti d68_48 ky68 fl5 fk7_5 ?_
        obtain ⟨hin5, hf⟩ := lk_g hf
        refine xe_iald d68_51 (by decide) ak34 hin5 ?_
        obtain ⟨h6, eh6, hf⟩ := lk_let hf
        refine xe_puti d68_52 ky68 fl10 fk7_7 ft7_7 eh6 ?_
        refine xs_aload_n d68_55 rfl ?_
        refine xs_aload_n d68_56 rfl ?_
        refine xe_getc (j := 0) d68_57 ky68 fl3 fk7_3 rfl ?_
        refine xs_aload_n d68_60 rfl ?_
        refine xe_geti d68_61 ky68 fl5 fk7_5 ?_
        obtain ⟨hin7, hf⟩ := lk_g hf
        refine xe_iald d68_64 (by decide) ak36 hin7 ?_
        obtain ⟨h8, eh8, hf⟩ := lk_let hf
        refine xe_puti d68_65 ky68 fl13 fk7_8 ft7_8 eh8 ?_
        obtain ⟨eR, eH⟩ := K0 _ (Option.some.inj hf).symm
        subst eR; subst eH
        exact xs_vret d68_68 rt68
noncomputable def f_Tape_goOn (h : xH) : Option xH := f_Tape_goOn_e h
theorem f_Tape_goOn_ok {g : xG} {l : Launch} {d : Nat} {h : xH} {h1 : xH} (hD : 0 ≤ d) (hf : f_Tape_goOn h = some h1) : xC g l d 68 [xr 7 (some 0)] h none h1 :=
  xC_of2 (by decide) mx68 (Nat.le_of_ble_eq_true rfl) (f_Tape_goOn_e_ok hD hf (fun _ e => ⟨rfl, e⟩))
theorem d58_0 : decode (xcode 58) 0 = .ok (.iload_n 1, 1) := by decide +kernel
theorem d58_1 : decode (xcode 58) 1 = .ok (.ifCond .lt 31, 3) := by decide +kernel
theorem d58_4 : decode (xcode 58) 4 = .ok (.iload_n 1, 1) := by decide +kernel
theorem d58_5 : decode (xcode 58) 5 = .ok (.aload_n 0, 1) := by decide +kernel
theorem d58_6 : decode (xcode 58) 6 = .ok (.getfield 25, 3) := by decide +kernel
theorem d58_9 : decode (xcode 58) 9 = .ok (.if_icmp .ge 23, 3) := by decide +kernel
theorem d58_12 : decode (xcode 58) 12 = .ok (.iload_n 1, 1) := by decide +kernel
theorem d58_13 : decode (xcode 58) 13 = .ok (.sipush 400, 3) := by decide +kernel
theorem d58_16 : decode (xcode 58) 16 = .ok (.if_icmp .ge 16, 3) := by decide +kernel
theorem d58_19 : decode (xcode 58) 19 = .ok (.aload_n 0, 1) := by decide +kernel
theorem d58_20 : decode (xcode 58) 20 = .ok (.getfield 11, 3) := by decide +kernel
theorem d58_23 : decode (xcode 58) 23 = .ok (.iload_n 1, 1) := by decide +kernel
theorem d58_24 : decode (xcode 58) 24 = .ok (.baload, 1) := by decide +kernel
theorem d58_25 : decode (xcode 58) 25 = .ok (.sipush 255, 3) := by decide +kernel
theorem d58_28 : decode (xcode 58) 28 = .ok (.iand, 1) := by decide +kernel
theorem d58_29 : decode (xcode 58) 29 = .ok (.goto 4, 3) := by decide +kernel
theorem d58_32 : decode (xcode 58) 32 = .ok (.iconst (-1), 1) := by decide +kernel
theorem d58_33 : decode (xcode 58) 33 = .ok (.ireturn, 1) := by decide +kernel
noncomputable def f_Tape_byteAt_e (v1 : Int32) (h : xH) : Option Int32 :=
  if v1 < (0 : Int32) then (
  some ((-1 : Int32))) else (
  if (h.1 7 6 0) ≤ v1 then (
  some ((-1 : Int32))) else (
  if (400 : Int32) ≤ v1 then (
  some ((-1 : Int32))) else (
  if xib v1 400 then (
  some ((h.2.2.2.1 33 0 (v1).toNatClampNeg) &&& (255 : Int32))) else none)))
set_option maxHeartbeats 4000000 in
set_option maxRecDepth 100000 in
theorem f_Tape_byteAt_e_ok {g : xG} {l : Launch} {d : Nat} {v1 : Int32} {h : xH} {o : Int32} {R : Option xV} (hD : 0 ≤ d) (hf : f_Tape_byteAt_e v1 h = some o) (K0 : ∀ (a : Int32), o = a → R = some (xi a)) : xEv g l d 58 0 [(0, xr 7 (some 0)), (1, xi v1)] [] h R h := by
  unfold f_Tape_byteAt_e at hf
  refine xs_iload_n d58_0 rfl ?_
  rcases lk_if hf with ⟨hc1, hf⟩ | ⟨hc1, hf⟩
  · refine xs_if_lt (tgt := 32) d58_1 (by decide) (fun _ => ?_) (fun hn => absurd hc1 hn)
    refine xs_iconst (v := -1) d58_32 (by decide) ?_
    obtain eR := K0 _ (Option.some.inj hf).symm
    subst eR
    exact xs_iret d58_33 rt58
  · refine xs_if_lt (tgt := 32) d58_1 (by decide) (fun hp => absurd hp hc1) (fun _ => ?_)
    refine xs_iload_n d58_4 rfl ?_
    refine xs_aload_n d58_5 rfl ?_
    refine xe_geti d58_6 ky58 fl6 fk7_6 ?_
    rcases lk_if hf with ⟨hc2, hf⟩ | ⟨hc2, hf⟩
    · refine xs_icmp_ge (tgt := 32) d58_9 (by decide) (fun _ => ?_) (fun hn => absurd hc2 hn)
      refine xs_iconst (v := -1) d58_32 (by decide) ?_
      obtain eR := K0 _ (Option.some.inj hf).symm
      subst eR
      exact xs_iret d58_33 rt58
    · refine xs_icmp_ge (tgt := 32) d58_9 (by decide) (fun hp => absurd hp hc2) (fun _ => ?_)
      refine xs_iload_n d58_12 rfl ?_
      refine xs_sipush (v := 400) d58_13 (by decide) ?_
      rcases lk_if hf with ⟨hc3, hf⟩ | ⟨hc3, hf⟩
      · refine xs_icmp_ge (tgt := 32) d58_16 (by decide) (fun _ => ?_) (fun hn => absurd hc3 hn)
        refine xs_iconst (v := -1) d58_32 (by decide) ?_
        obtain eR := K0 _ (Option.some.inj hf).symm
        subst eR
        exact xs_iret d58_33 rt58
      · refine xs_icmp_ge (tgt := 32) d58_16 (by decide) (fun hp => absurd hp hc3) (fun _ => ?_)
        refine xs_aload_n d58_19 rfl ?_
        refine xe_getc (j := 0) d58_20 ky58 fl0 fk7_0 rfl ?_
        refine xs_iload_n d58_23 rfl ?_
        obtain ⟨hin4, hf⟩ := lk_g hf
        refine xe_bald d58_24 (by decide) ak33 hin4 ?_
        refine xs_sipush (v := 255) d58_25 (by decide) ?_
        refine xs_iand d58_28 ?_
        refine xs_goto (tgt := 33) d58_29 (by decide) ?_
        obtain eR := K0 _ (Option.some.inj hf).symm
        subst eR
        exact xs_iret d58_33 rt58
noncomputable def f_Tape_byteAt (v1 : Int32) (h : xH) : Option Int32 := f_Tape_byteAt_e v1 h
theorem f_Tape_byteAt_ok {g : xG} {l : Launch} {d : Nat} {v1 : Int32} {h : xH} {r : Int32} (hD : 0 ≤ d) (hf : f_Tape_byteAt v1 h = some r) : xC g l d 58 [xr 7 (some 0), xi v1] h (some (xi r)) h :=
  xC_of2 (by decide) mx58 (Nat.le_of_ble_eq_true rfl) (f_Tape_byteAt_e_ok hD hf (fun _ e => by rw [e]))
theorem d64_0 : decode (xcode 64) 0 = .ok (.aload_n 0, 1) := by decide +kernel
theorem d64_1 : decode (xcode 64) 1 = .ok (.getfield 36, 3) := by decide +kernel
theorem d64_4 : decode (xcode 64) 4 = .ok (.ifCond .lt 53, 3) := by decide +kernel
theorem d64_7 : decode (xcode 64) 7 = .ok (.aload_n 0, 1) := by decide +kernel
theorem d64_8 : decode (xcode 64) 8 = .ok (.getfield 36, 3) := by decide +kernel
theorem d64_11 : decode (xcode 64) 11 = .ok (.sipush 400, 3) := by decide +kernel
theorem d64_14 : decode (xcode 64) 14 = .ok (.if_icmp .gt 43, 3) := by decide +kernel
theorem d64_17 : decode (xcode 64) 17 = .ok (.aload_n 0, 1) := by decide +kernel
theorem d64_18 : decode (xcode 64) 18 = .ok (.getfield 15, 3) := by decide +kernel
theorem d64_21 : decode (xcode 64) 21 = .ok (.aload_n 0, 1) := by decide +kernel
theorem d64_22 : decode (xcode 64) 22 = .ok (.getfield 36, 3) := by decide +kernel
theorem d64_25 : decode (xcode 64) 25 = .ok (.iload_n 1, 1) := by decide +kernel
theorem d64_26 : decode (xcode 64) 26 = .ok (.iastore, 1) := by decide +kernel
theorem d64_27 : decode (xcode 64) 27 = .ok (.aload_n 0, 1) := by decide +kernel
theorem d64_28 : decode (xcode 64) 28 = .ok (.getfield 19, 3) := by decide +kernel
theorem d64_31 : decode (xcode 64) 31 = .ok (.aload_n 0, 1) := by decide +kernel
theorem d64_32 : decode (xcode 64) 32 = .ok (.getfield 36, 3) := by decide +kernel
theorem d64_35 : decode (xcode 64) 35 = .ok (.iload_n 2, 1) := by decide +kernel
theorem d64_36 : decode (xcode 64) 36 = .ok (.iastore, 1) := by decide +kernel
theorem d64_37 : decode (xcode 64) 37 = .ok (.aload_n 0, 1) := by decide +kernel
theorem d64_38 : decode (xcode 64) 38 = .ok (.getfield 22, 3) := by decide +kernel
theorem d64_41 : decode (xcode 64) 41 = .ok (.aload_n 0, 1) := by decide +kernel
theorem d64_42 : decode (xcode 64) 42 = .ok (.getfield 36, 3) := by decide +kernel
theorem d64_45 : decode (xcode 64) 45 = .ok (.iload_n 3, 1) := by decide +kernel
theorem d64_46 : decode (xcode 64) 46 = .ok (.iastore, 1) := by decide +kernel
theorem d64_47 : decode (xcode 64) 47 = .ok (.aload_n 0, 1) := by decide +kernel
theorem d64_48 : decode (xcode 64) 48 = .ok (.dup, 1) := by decide +kernel
theorem d64_49 : decode (xcode 64) 49 = .ok (.getfield 36, 3) := by decide +kernel
theorem d64_52 : decode (xcode 64) 52 = .ok (.iconst 1, 1) := by decide +kernel
theorem d64_53 : decode (xcode 64) 53 = .ok (.iadd, 1) := by decide +kernel
theorem d64_54 : decode (xcode 64) 54 = .ok (.putfield 36, 3) := by decide +kernel
theorem d64_57 : decode (xcode 64) 57 = .ok (.return_, 1) := by decide +kernel
noncomputable def f_Tape_addPiece_e (v1 : Int32) (v2 : Int32) (v3 : Int32) (h : xH) : Option xH :=
  if (h.1 7 4 0) < (0 : Int32) then (
  some (h)) else (
  if (400 : Int32) < (h.1 7 4 0) then (
  some (h)) else (
  if xib (h.1 7 4 0) 401 then (
  xlet (xsA h 34 0 (upd (h.2.2.2.1 34 0) (h.1 7 4 0).toNatClampNeg v1)) fun h4 =>
  if xib (h4.1 7 4 0) 401 then (
  xlet (xsA h4 35 0 (upd (h4.2.2.2.1 35 0) (h4.1 7 4 0).toNatClampNeg v2)) fun h6 =>
  if xib (h6.1 7 4 0) 401 then (
  xlet (xsA h6 36 0 (upd (h6.2.2.2.1 36 0) (h6.1 7 4 0).toNatClampNeg v3)) fun h8 =>
  xlet (xsI h8 7 4 0 ((h8.1 7 4 0) + (1 : Int32))) fun h9 =>
  some (h9)) else none) else none) else none))
set_option maxHeartbeats 4000000 in
set_option maxRecDepth 100000 in
theorem f_Tape_addPiece_e_ok {g : xG} {l : Launch} {d : Nat} {v1 : Int32} {v2 : Int32} {v3 : Int32} {h : xH} {o : xH} {R : Option xV} {H' : xH} (hD : 0 ≤ d) (hf : f_Tape_addPiece_e v1 v2 v3 h = some o) (K0 : ∀ (h1 : xH), o = h1 → R = none ∧ H' = h1) : xEv g l d 64 0 [(0, xr 7 (some 0)), (1, xi v1), (2, xi v2), (3, xi v3)] [] h R H' := by
  unfold f_Tape_addPiece_e at hf
  refine xs_aload_n d64_0 rfl ?_
  refine xe_geti d64_1 ky64 fl4 fk7_4 ?_
  rcases lk_if hf with ⟨hc1, hf⟩ | ⟨hc1, hf⟩
  · refine xs_if_lt (tgt := 57) d64_4 (by decide) (fun _ => ?_) (fun hn => absurd hc1 hn)
    obtain ⟨eR, eH⟩ := K0 _ (Option.some.inj hf).symm
    subst eR; subst eH
    exact xs_vret d64_57 rt64
  · refine xs_if_lt (tgt := 57) d64_4 (by decide) (fun hp => absurd hp hc1) (fun _ => ?_)
    refine xs_aload_n d64_7 rfl ?_
    refine xe_geti d64_8 ky64 fl4 fk7_4 ?_
    refine xs_sipush (v := 400) d64_11 (by decide) ?_
    rcases lk_if hf with ⟨hc2, hf⟩ | ⟨hc2, hf⟩
    · refine xs_icmp_gt (tgt := 57) d64_14 (by decide) (fun _ => ?_) (fun hn => absurd hc2 hn)
      obtain ⟨eR, eH⟩ := K0 _ (Option.some.inj hf).symm
      subst eR; subst eH
      exact xs_vret d64_57 rt64
    · refine xs_icmp_gt (tgt := 57) d64_14 (by decide) (fun hp => absurd hp hc2) (fun _ => ?_)
      refine xs_aload_n d64_17 rfl ?_
      refine xe_getc (j := 0) d64_18 ky64 fl1 fk7_1 rfl ?_
      refine xs_aload_n d64_21 rfl ?_
      refine xe_geti d64_22 ky64 fl4 fk7_4 ?_
      refine xs_iload_n d64_25 rfl ?_
      obtain ⟨hin3, hf⟩ := lk_g hf
      obtain ⟨h4, eh4, hf⟩ := lk_let hf
      refine xe_iast d64_26 (by decide) ak34 hin3  eh4 ?_
      refine xs_aload_n d64_27 rfl ?_
      refine xe_getc (j := 0) d64_28 ky64 fl2 fk7_2 rfl ?_
      refine xs_aload_n d64_31 rfl ?_
      refine xe_geti d64_32 ky64 fl4 fk7_4 ?_
      refine xs_iload_n d64_35 rfl ?_
      obtain ⟨hin5, hf⟩ := lk_g hf
      obtain ⟨h6, eh6, hf⟩ := lk_let hf
      refine xe_iast d64_36 (by decide) ak35 hin5  eh6 ?_
      refine xs_aload_n d64_37 rfl ?_
      refine xe_getc (j := 0) d64_38 ky64 fl3 fk7_3 rfl ?_
      refine xs_aload_n d64_41 rfl ?_
      refine xe_geti d64_42 ky64 fl4 fk7_4 ?_
      refine xs_iload_n d64_45 rfl ?_
      obtain ⟨hin7, hf⟩ := lk_g hf
      obtain ⟨h8, eh8, hf⟩ := lk_let hf
      refine xe_iast d64_46 (by decide) ak36 hin7  eh8 ?_
      refine xs_aload_n d64_47 rfl ?_
      refine xs_dup d64_48 rfl ?_
      refine xe_geti d64_49 ky64 fl4 fk7_4 ?_
      refine xs_iconst (v := 1) d64_52 (by decide) ?_
      refine xs_iadd d64_53 ?_
      obtain ⟨h9, eh9, hf⟩ := lk_let hf
      refine xe_puti d64_54 ky64 fl4 fk7_4 ft7_4 eh9 ?_
      obtain ⟨eR, eH⟩ := K0 _ (Option.some.inj hf).symm
      subst eR; subst eH
      exact xs_vret d64_57 rt64
noncomputable def f_Tape_addPiece (v1 : Int32) (v2 : Int32) (v3 : Int32) (h : xH) : Option xH := f_Tape_addPiece_e v1 v2 v3 h
theorem f_Tape_addPiece_ok {g : xG} {l : Launch} {d : Nat} {v1 : Int32} {v2 : Int32} {v3 : Int32} {h : xH} {h1 : xH} (hD : 0 ≤ d) (hf : f_Tape_addPiece v1 v2 v3 h = some h1) : xC g l d 64 [xr 7 (some 0), xi v1, xi v2, xi v3] h none h1 :=
  xC_of2 (by decide) mx64 (Nat.le_of_ble_eq_true rfl) (f_Tape_addPiece_e_ok hD hf (fun _ e => ⟨rfl, e⟩))
theorem d59_0 : decode (xcode 59) 0 = .ok (.aload_n 0, 1) := by decide +kernel
theorem d59_1 : decode (xcode 59) 1 = .ok (.iload_n 1, 1) := by decide +kernel
theorem d59_2 : decode (xcode 59) 2 = .ok (.invokevirtual 29, 3) := by decide +kernel
theorem d59_5 : decode (xcode 59) 5 = .ok (.bipush 97, 2) := by decide +kernel
theorem d59_7 : decode (xcode 59) 7 = .ok (.if_icmp .lt 17, 3) := by decide +kernel
theorem d59_10 : decode (xcode 59) 10 = .ok (.aload_n 0, 1) := by decide +kernel
theorem d59_11 : decode (xcode 59) 11 = .ok (.iload_n 1, 1) := by decide +kernel
theorem d59_12 : decode (xcode 59) 12 = .ok (.invokevirtual 29, 3) := by decide +kernel
theorem d59_15 : decode (xcode 59) 15 = .ok (.bipush 122, 2) := by decide +kernel
theorem d59_17 : decode (xcode 59) 17 = .ok (.if_icmp .gt 7, 3) := by decide +kernel
theorem d59_20 : decode (xcode 59) 20 = .ok (.iconst 1, 1) := by decide +kernel
theorem d59_21 : decode (xcode 59) 21 = .ok (.goto 4, 3) := by decide +kernel
theorem d59_24 : decode (xcode 59) 24 = .ok (.iconst 0, 1) := by decide +kernel
theorem d59_25 : decode (xcode 59) 25 = .ok (.ireturn, 1) := by decide +kernel
noncomputable def f_Tape_isLetter_e (v1 : Int32) (h : xH) : Option Int32 :=
  (f_Tape_byteAt v1 h).bind fun r1 =>
  if r1 < (97 : Int32) then (
  some ((0 : Int32))) else (
  (f_Tape_byteAt v1 h).bind fun r4 =>
  if (122 : Int32) < r4 then (
  some ((0 : Int32))) else (
  some ((1 : Int32))))
set_option maxHeartbeats 4000000 in
set_option maxRecDepth 100000 in
theorem f_Tape_isLetter_e_ok {g : xG} {l : Launch} {d : Nat} {v1 : Int32} {h : xH} {o : Int32} {R : Option xV} (hD : 1 ≤ d) (hf : f_Tape_isLetter_e v1 h = some o) (K0 : ∀ (a : Int32), o = a → R = some (xi a)) : xEv g l d 59 0 [(0, xr 7 (some 0)), (1, xi v1)] [] h R h := by
  unfold f_Tape_isLetter_e at hf
  refine xs_aload_n d59_0 rfl ?_
  refine xs_iload_n d59_1 rfl ?_
  obtain ⟨r1, hc2, hf⟩ := lk_b hf
  refine xe_callv1 (as := [xi v1]) (st := []) (h2 := h) (d2 := d - 1) d59_2 ky59 ml9 st58 (by decide) cn58 rfl na58 (Nat.le_of_ble_eq_true rfl) (by omega) (f_Tape_byteAt_ok (by omega) hc2) ?_
  refine xs_bipush (v := 97) d59_5 (by decide) ?_
  rcases lk_if hf with ⟨hc3, hf⟩ | ⟨hc3, hf⟩
  · refine xs_icmp_lt (tgt := 24) d59_7 (by decide) (fun _ => ?_) (fun hn => absurd hc3 hn)
    refine xs_iconst (v := 0) d59_24 (by decide) ?_
    obtain eR := K0 _ (Option.some.inj hf).symm
    subst eR
    exact xe_zret d59_25 (Or.inl rfl) rt59
  · refine xs_icmp_lt (tgt := 24) d59_7 (by decide) (fun hp => absurd hp hc3) (fun _ => ?_)
    refine xs_aload_n d59_10 rfl ?_
    refine xs_iload_n d59_11 rfl ?_
    obtain ⟨r4, hc5, hf⟩ := lk_b hf
    refine xe_callv1 (as := [xi v1]) (st := []) (h2 := h) (d2 := d - 1) d59_12 ky59 ml9 st58 (by decide) cn58 rfl na58 (Nat.le_of_ble_eq_true rfl) (by omega) (f_Tape_byteAt_ok (by omega) hc5) ?_
    refine xs_bipush (v := 122) d59_15 (by decide) ?_
    rcases lk_if hf with ⟨hc6, hf⟩ | ⟨hc6, hf⟩
    · refine xs_icmp_gt (tgt := 24) d59_17 (by decide) (fun _ => ?_) (fun hn => absurd hc6 hn)
      refine xs_iconst (v := 0) d59_24 (by decide) ?_
      obtain eR := K0 _ (Option.some.inj hf).symm
      subst eR
      exact xe_zret d59_25 (Or.inl rfl) rt59
    · refine xs_icmp_gt (tgt := 24) d59_17 (by decide) (fun hp => absurd hp hc6) (fun _ => ?_)
      refine xs_iconst (v := 1) d59_20 (by decide) ?_
      refine xs_goto (tgt := 25) d59_21 (by decide) ?_
      obtain eR := K0 _ (Option.some.inj hf).symm
      subst eR
      exact xe_zret d59_25 (Or.inr rfl) rt59
noncomputable def f_Tape_isLetter (v1 : Int32) (h : xH) : Option Int32 := f_Tape_isLetter_e v1 h
theorem f_Tape_isLetter_ok {g : xG} {l : Launch} {d : Nat} {v1 : Int32} {h : xH} {r : Int32} (hD : 1 ≤ d) (hf : f_Tape_isLetter v1 h = some r) : xC g l d 59 [xr 7 (some 0), xi v1] h (some (xi r)) h :=
  xC_of2 (by decide) mx59 (Nat.le_of_ble_eq_true rfl) (f_Tape_isLetter_e_ok hD hf (fun _ e => by rw [e]))
theorem d60_0 : decode (xcode 60) 0 = .ok (.aload_n 0, 1) := by decide +kernel
theorem d60_1 : decode (xcode 60) 1 = .ok (.iload_n 1, 1) := by decide +kernel
theorem d60_2 : decode (xcode 60) 2 = .ok (.invokevirtual 29, 3) := by decide +kernel
theorem d60_5 : decode (xcode 60) 5 = .ok (.bipush 48, 2) := by decide +kernel
theorem d60_7 : decode (xcode 60) 7 = .ok (.if_icmp .lt 17, 3) := by decide +kernel
theorem d60_10 : decode (xcode 60) 10 = .ok (.aload_n 0, 1) := by decide +kernel
theorem d60_11 : decode (xcode 60) 11 = .ok (.iload_n 1, 1) := by decide +kernel
theorem d60_12 : decode (xcode 60) 12 = .ok (.invokevirtual 29, 3) := by decide +kernel
theorem d60_15 : decode (xcode 60) 15 = .ok (.bipush 57, 2) := by decide +kernel
theorem d60_17 : decode (xcode 60) 17 = .ok (.if_icmp .gt 7, 3) := by decide +kernel
theorem d60_20 : decode (xcode 60) 20 = .ok (.iconst 1, 1) := by decide +kernel
theorem d60_21 : decode (xcode 60) 21 = .ok (.goto 4, 3) := by decide +kernel
theorem d60_24 : decode (xcode 60) 24 = .ok (.iconst 0, 1) := by decide +kernel
theorem d60_25 : decode (xcode 60) 25 = .ok (.ireturn, 1) := by decide +kernel
noncomputable def f_Tape_isDigit_e (v1 : Int32) (h : xH) : Option Int32 :=
  (f_Tape_byteAt v1 h).bind fun r1 =>
  if r1 < (48 : Int32) then (
  some ((0 : Int32))) else (
  (f_Tape_byteAt v1 h).bind fun r4 =>
  if (57 : Int32) < r4 then (
  some ((0 : Int32))) else (
  some ((1 : Int32))))
set_option maxHeartbeats 4000000 in
set_option maxRecDepth 100000 in
theorem f_Tape_isDigit_e_ok {g : xG} {l : Launch} {d : Nat} {v1 : Int32} {h : xH} {o : Int32} {R : Option xV} (hD : 1 ≤ d) (hf : f_Tape_isDigit_e v1 h = some o) (K0 : ∀ (a : Int32), o = a → R = some (xi a)) : xEv g l d 60 0 [(0, xr 7 (some 0)), (1, xi v1)] [] h R h := by
  unfold f_Tape_isDigit_e at hf
  refine xs_aload_n d60_0 rfl ?_
  refine xs_iload_n d60_1 rfl ?_
  obtain ⟨r1, hc2, hf⟩ := lk_b hf
  refine xe_callv1 (as := [xi v1]) (st := []) (h2 := h) (d2 := d - 1) d60_2 ky60 ml9 st58 (by decide) cn58 rfl na58 (Nat.le_of_ble_eq_true rfl) (by omega) (f_Tape_byteAt_ok (by omega) hc2) ?_
  refine xs_bipush (v := 48) d60_5 (by decide) ?_
  rcases lk_if hf with ⟨hc3, hf⟩ | ⟨hc3, hf⟩
  · refine xs_icmp_lt (tgt := 24) d60_7 (by decide) (fun _ => ?_) (fun hn => absurd hc3 hn)
    refine xs_iconst (v := 0) d60_24 (by decide) ?_
    obtain eR := K0 _ (Option.some.inj hf).symm
    subst eR
    exact xe_zret d60_25 (Or.inl rfl) rt60
  · refine xs_icmp_lt (tgt := 24) d60_7 (by decide) (fun hp => absurd hp hc3) (fun _ => ?_)
    refine xs_aload_n d60_10 rfl ?_
    refine xs_iload_n d60_11 rfl ?_
    obtain ⟨r4, hc5, hf⟩ := lk_b hf
    refine xe_callv1 (as := [xi v1]) (st := []) (h2 := h) (d2 := d - 1) d60_12 ky60 ml9 st58 (by decide) cn58 rfl na58 (Nat.le_of_ble_eq_true rfl) (by omega) (f_Tape_byteAt_ok (by omega) hc5) ?_
    refine xs_bipush (v := 57) d60_15 (by decide) ?_
    rcases lk_if hf with ⟨hc6, hf⟩ | ⟨hc6, hf⟩
    · refine xs_icmp_gt (tgt := 24) d60_17 (by decide) (fun _ => ?_) (fun hn => absurd hc6 hn)
      refine xs_iconst (v := 0) d60_24 (by decide) ?_
      obtain eR := K0 _ (Option.some.inj hf).symm
      subst eR
      exact xe_zret d60_25 (Or.inl rfl) rt60
    · refine xs_icmp_gt (tgt := 24) d60_17 (by decide) (fun hp => absurd hp hc6) (fun _ => ?_)
      refine xs_iconst (v := 1) d60_20 (by decide) ?_
      refine xs_goto (tgt := 25) d60_21 (by decide) ?_
      obtain eR := K0 _ (Option.some.inj hf).symm
      subst eR
      exact xe_zret d60_25 (Or.inr rfl) rt60
noncomputable def f_Tape_isDigit (v1 : Int32) (h : xH) : Option Int32 := f_Tape_isDigit_e v1 h
theorem f_Tape_isDigit_ok {g : xG} {l : Launch} {d : Nat} {v1 : Int32} {h : xH} {r : Int32} (hD : 1 ≤ d) (hf : f_Tape_isDigit v1 h = some r) : xC g l d 60 [xr 7 (some 0), xi v1] h (some (xi r)) h :=
  xC_of2 (by decide) mx60 (Nat.le_of_ble_eq_true rfl) (f_Tape_isDigit_e_ok hD hf (fun _ e => by rw [e]))
theorem d63_0 : decode (xcode 63) 0 = .ok (.aload_n 0, 1) := by decide +kernel
theorem d63_1 : decode (xcode 63) 1 = .ok (.iload_n 1, 1) := by decide +kernel
theorem d63_2 : decode (xcode 63) 2 = .ok (.invokevirtual 29, 3) := by decide +kernel
theorem d63_5 : decode (xcode 63) 5 = .ok (.bipush 60, 2) := by decide +kernel
theorem d63_7 : decode (xcode 63) 7 = .ok (.if_icmp .eq 13, 3) := by decide +kernel
theorem d63_10 : decode (xcode 63) 10 = .ok (.aload_n 0, 1) := by decide +kernel
theorem d63_11 : decode (xcode 63) 11 = .ok (.iload_n 1, 1) := by decide +kernel
theorem d63_12 : decode (xcode 63) 12 = .ok (.invokevirtual 29, 3) := by decide +kernel
theorem d63_15 : decode (xcode 63) 15 = .ok (.bipush 62, 2) := by decide +kernel
theorem d63_17 : decode (xcode 63) 17 = .ok (.if_icmp .ne 19, 3) := by decide +kernel
theorem d63_20 : decode (xcode 63) 20 = .ok (.aload_n 0, 1) := by decide +kernel
theorem d63_21 : decode (xcode 63) 21 = .ok (.iload_n 1, 1) := by decide +kernel
theorem d63_22 : decode (xcode 63) 22 = .ok (.iconst 1, 1) := by decide +kernel
theorem d63_23 : decode (xcode 63) 23 = .ok (.iadd, 1) := by decide +kernel
theorem d63_24 : decode (xcode 63) 24 = .ok (.invokevirtual 29, 3) := by decide +kernel
theorem d63_27 : decode (xcode 63) 27 = .ok (.bipush 61, 2) := by decide +kernel
theorem d63_29 : decode (xcode 63) 29 = .ok (.if_icmp .ne 7, 3) := by decide +kernel
theorem d63_32 : decode (xcode 63) 32 = .ok (.iconst 1, 1) := by decide +kernel
theorem d63_33 : decode (xcode 63) 33 = .ok (.goto 4, 3) := by decide +kernel
theorem d63_36 : decode (xcode 63) 36 = .ok (.iconst 0, 1) := by decide +kernel
theorem d63_37 : decode (xcode 63) 37 = .ok (.ireturn, 1) := by decide +kernel
noncomputable def f_Tape_isWithEqual_b20 (v1 : Int32) (h : xH) : Option Int32 :=
  (f_Tape_byteAt (v1 + (1 : Int32)) h).bind fun r4 =>
  if r4 = (61 : Int32) then (
  some ((1 : Int32))) else (
  some ((0 : Int32)))
set_option maxHeartbeats 4000000 in
set_option maxRecDepth 100000 in
theorem f_Tape_isWithEqual_b20_ok {g : xG} {l : Launch} {d : Nat} {v1 : Int32} {h : xH} {o : Int32} {R : Option xV} (hD : 1 ≤ d) (hf : f_Tape_isWithEqual_b20 v1 h = some o) (K0 : ∀ (a : Int32), o = a → R = some (xi a)) : xEv g l d 63 20 [(0, xr 7 (some 0)), (1, xi v1)] [] h R h := by
  unfold f_Tape_isWithEqual_b20 at hf
  refine xs_aload_n d63_20 rfl ?_
  refine xs_iload_n d63_21 rfl ?_
  refine xs_iconst (v := 1) d63_22 (by decide) ?_
  refine xs_iadd d63_23 ?_
  obtain ⟨r4, hc5, hf⟩ := lk_b hf
  refine xe_callv1 (as := [xi (v1 + (1 : Int32))]) (st := []) (h2 := h) (d2 := d - 1) d63_24 ky63 ml9 st58 (by decide) cn58 rfl na58 (Nat.le_of_ble_eq_true rfl) (by omega) (f_Tape_byteAt_ok (by omega) hc5) ?_
  refine xs_bipush (v := 61) d63_27 (by decide) ?_
  rcases lk_if hf with ⟨hc6, hf⟩ | ⟨hc6, hf⟩
  · refine xs_icmp_ne (tgt := 36) d63_29 (by decide) (fun _ => ?_) (fun hn => absurd hc6 hn)
    refine xs_iconst (v := 1) d63_32 (by decide) ?_
    refine xs_goto (tgt := 37) d63_33 (by decide) ?_
    obtain eR := K0 _ (Option.some.inj hf).symm
    subst eR
    exact xe_zret d63_37 (Or.inr rfl) rt63
  · refine xs_icmp_ne (tgt := 36) d63_29 (by decide) (fun hp => absurd hp hc6) (fun _ => ?_)
    refine xs_iconst (v := 0) d63_36 (by decide) ?_
    obtain eR := K0 _ (Option.some.inj hf).symm
    subst eR
    exact xe_zret d63_37 (Or.inl rfl) rt63
noncomputable def f_Tape_isWithEqual_e (v1 : Int32) (h : xH) : Option Int32 :=
  (f_Tape_byteAt v1 h).bind fun r1 =>
  if r1 = (60 : Int32) then (
  f_Tape_isWithEqual_b20 v1 h) else (
  (f_Tape_byteAt v1 h).bind fun r7 =>
  if r7 = (62 : Int32) then (
  f_Tape_isWithEqual_b20 v1 h) else (
  some ((0 : Int32))))
set_option maxHeartbeats 4000000 in
set_option maxRecDepth 100000 in
theorem f_Tape_isWithEqual_e_ok {g : xG} {l : Launch} {d : Nat} {v1 : Int32} {h : xH} {o : Int32} {R : Option xV} (hD : 1 ≤ d) (hf : f_Tape_isWithEqual_e v1 h = some o) (K0 : ∀ (a : Int32), o = a → R = some (xi a)) : xEv g l d 63 0 [(0, xr 7 (some 0)), (1, xi v1)] [] h R h := by
  unfold f_Tape_isWithEqual_e at hf
  refine xs_aload_n d63_0 rfl ?_
  refine xs_iload_n d63_1 rfl ?_
  obtain ⟨r1, hc2, hf⟩ := lk_b hf
  refine xe_callv1 (as := [xi v1]) (st := []) (h2 := h) (d2 := d - 1) d63_2 ky63 ml9 st58 (by decide) cn58 rfl na58 (Nat.le_of_ble_eq_true rfl) (by omega) (f_Tape_byteAt_ok (by omega) hc2) ?_
  refine xs_bipush (v := 60) d63_5 (by decide) ?_
  rcases lk_if hf with ⟨hc3, hf⟩ | ⟨hc3, hf⟩
  · refine xs_icmp_eq (tgt := 20) d63_7 (by decide) (fun _ => ?_) (fun hn => absurd hc3 hn)
    exact f_Tape_isWithEqual_b20_ok hD hf K0
  · refine xs_icmp_eq (tgt := 20) d63_7 (by decide) (fun hp => absurd hp hc3) (fun _ => ?_)
    refine xs_aload_n d63_10 rfl ?_
    refine xs_iload_n d63_11 rfl ?_
    obtain ⟨r7, hc8, hf⟩ := lk_b hf
    refine xe_callv1 (as := [xi v1]) (st := []) (h2 := h) (d2 := d - 1) d63_12 ky63 ml9 st58 (by decide) cn58 rfl na58 (Nat.le_of_ble_eq_true rfl) (by omega) (f_Tape_byteAt_ok (by omega) hc8) ?_
    refine xs_bipush (v := 62) d63_15 (by decide) ?_
    rcases lk_if hf with ⟨hc9, hf⟩ | ⟨hc9, hf⟩
    · refine xs_icmp_ne (tgt := 36) d63_17 (by decide) (fun _ => ?_) (fun hn => absurd hc9 hn)
      exact f_Tape_isWithEqual_b20_ok hD hf K0
    · refine xs_icmp_ne (tgt := 36) d63_17 (by decide) (fun hp => absurd hp hc9) (fun _ => ?_)
      refine xs_iconst (v := 0) d63_36 (by decide) ?_
      obtain eR := K0 _ (Option.some.inj hf).symm
      subst eR
      exact xe_zret d63_37 (Or.inl rfl) rt63
noncomputable def f_Tape_isWithEqual (v1 : Int32) (h : xH) : Option Int32 := f_Tape_isWithEqual_e v1 h
theorem f_Tape_isWithEqual_ok {g : xG} {l : Launch} {d : Nat} {v1 : Int32} {h : xH} {r : Int32} (hD : 1 ≤ d) (hf : f_Tape_isWithEqual v1 h = some r) : xC g l d 63 [xr 7 (some 0), xi v1] h (some (xi r)) h :=
  xC_of2 (by decide) mx63 (Nat.le_of_ble_eq_true rfl) (f_Tape_isWithEqual_e_ok hD hf (fun _ e => by rw [e]))
theorem d65_0 : decode (xcode 65) 0 = .ok (.iload_n 2, 1) := by decide +kernel
theorem d65_1 : decode (xcode 65) 1 = .ok (.iload_n 1, 1) := by decide +kernel
theorem d65_2 : decode (xcode 65) 2 = .ok (.isub, 1) := by decide +kernel
theorem d65_3 : decode (xcode 65) 3 = .ok (.iconst 5, 1) := by decide +kernel
theorem d65_4 : decode (xcode 65) 4 = .ok (.if_icmp .le 5, 3) := by decide +kernel
theorem d65_7 : decode (xcode 65) 7 = .ok (.iconst (-1), 1) := by decide +kernel
theorem d65_8 : decode (xcode 65) 8 = .ok (.ireturn, 1) := by decide +kernel
theorem d65_9 : decode (xcode 65) 9 = .ok (.iconst 0, 1) := by decide +kernel
theorem d65_10 : decode (xcode 65) 10 = .ok (.istore_n 3, 1) := by decide +kernel
theorem d65_11 : decode (xcode 65) 11 = .ok (.iload_n 1, 1) := by decide +kernel
theorem d65_12 : decode (xcode 65) 12 = .ok (.istore 4, 2) := by decide +kernel
theorem d65_14 : decode (xcode 65) 14 = .ok (.iload 4, 2) := by decide +kernel
theorem d65_16 : decode (xcode 65) 16 = .ok (.iload_n 2, 1) := by decide +kernel
theorem d65_17 : decode (xcode 65) 17 = .ok (.if_icmp .ge 24, 3) := by decide +kernel
theorem d65_20 : decode (xcode 65) 20 = .ok (.iload_n 3, 1) := by decide +kernel
theorem d65_21 : decode (xcode 65) 21 = .ok (.bipush 10, 2) := by decide +kernel
theorem d65_23 : decode (xcode 65) 23 = .ok (.imul, 1) := by decide +kernel
theorem d65_24 : decode (xcode 65) 24 = .ok (.aload_n 0, 1) := by decide +kernel
theorem d65_25 : decode (xcode 65) 25 = .ok (.iload 4, 2) := by decide +kernel
theorem d65_27 : decode (xcode 65) 27 = .ok (.invokevirtual 29, 3) := by decide +kernel
theorem d65_30 : decode (xcode 65) 30 = .ok (.iadd, 1) := by decide +kernel
theorem d65_31 : decode (xcode 65) 31 = .ok (.bipush 48, 2) := by decide +kernel
theorem d65_33 : decode (xcode 65) 33 = .ok (.isub, 1) := by decide +kernel
theorem d65_34 : decode (xcode 65) 34 = .ok (.istore_n 3, 1) := by decide +kernel
theorem d65_35 : decode (xcode 65) 35 = .ok (.iinc 4 1, 3) := by decide +kernel
theorem d65_38 : decode (xcode 65) 38 = .ok (.goto (-24), 3) := by decide +kernel
theorem d65_41 : decode (xcode 65) 41 = .ok (.iload_n 3, 1) := by decide +kernel
theorem d65_42 : decode (xcode 65) 42 = .ok (.ireturn, 1) := by decide +kernel
noncomputable def f_Tape_numberAt_s14 (v2 : Int32) (v3 : Int32) (v4 : Int32) (h : xH) : Option ((Int32 × Int32) ⊕ Int32) :=
  if v2 ≤ v4 then (
  some (Sum.inr (v3))) else (
  (f_Tape_byteAt v4 h).bind fun r3 =>
  xlet (((v3 * (10 : Int32)) + r3) - (48 : Int32)) fun v3_5 =>
  xlet (v4 + (1 : Int32)) fun v4_6 =>
  some (Sum.inl (v3_5, v4_6)))
set_option maxHeartbeats 4000000 in
set_option maxRecDepth 100000 in
theorem f_Tape_numberAt_s14_ok {g : xG} {l : Launch} {d : Nat} {v2 : Int32} {v3 : Int32} {v4 : Int32} {h : xH} {o : ((Int32 × Int32) ⊕ Int32)} {R : Option xV} (hD : 1 ≤ d) (hf : f_Tape_numberAt_s14 v2 v3 v4 h = some o) (K1 : ∀ (w3 : Int32) (w4 : Int32), o = Sum.inl (w3, w4) → xEv g l d 65 14 [(0, xr 7 (some 0)), (2, xi v2), (3, xi w3), (4, xi w4)] [] h R h) (K0 : ∀ (a : Int32), o = Sum.inr (a) → R = some (xi a)) : xEv g l d 65 14 [(0, xr 7 (some 0)), (2, xi v2), (3, xi v3), (4, xi v4)] [] h R h := by
  unfold f_Tape_numberAt_s14 at hf
  refine xs_iload d65_14 rfl ?_
  refine xs_iload_n d65_16 rfl ?_
  rcases lk_if hf with ⟨hc2, hf⟩ | ⟨hc2, hf⟩
  · refine xs_icmp_ge (tgt := 41) d65_17 (by decide) (fun _ => ?_) (fun hn => absurd hc2 hn)
    refine xs_iload_n d65_41 rfl ?_
    obtain eR := K0 _ (Option.some.inj hf).symm
    subst eR
    exact xs_iret d65_42 rt65
  · refine xs_icmp_ge (tgt := 41) d65_17 (by decide) (fun hp => absurd hp hc2) (fun _ => ?_)
    refine xs_iload_n d65_20 rfl ?_
    refine xs_bipush (v := 10) d65_21 (by decide) ?_
    refine xs_imul d65_23 ?_
    refine xs_aload_n d65_24 rfl ?_
    refine xs_iload d65_25 rfl ?_
    obtain ⟨r3, hc4, hf⟩ := lk_b hf
    refine xe_callv1 (as := [xi v4]) (st := [xi (v3 * (10 : Int32))]) (h2 := h) (d2 := d - 1) d65_27 ky65 ml9 st58 (by decide) cn58 rfl na58 (Nat.le_of_ble_eq_true rfl) (by omega) (f_Tape_byteAt_ok (by omega) hc4) ?_
    refine xs_iadd d65_30 ?_
    refine xs_bipush (v := 48) d65_31 (by decide) ?_
    refine xs_isub d65_33 ?_
    obtain ⟨v3_5, ev3_5, hf⟩ := lk_let hf
    refine xe_istore_n (v := v3_5) (ls2 := [(0, xr 7 (some 0)), (2, xi v2), (3, xi v3_5), (4, xi v4)]) d65_34 mx65 (by decide) ev3_5 rfl ?_
    obtain ⟨v4_6, ev4_6, hf⟩ := lk_let hf
    refine xe_iinc (v := v4_6) (b := 1) (ls2 := [(0, xr 7 (some 0)), (2, xi v2), (3, xi v3_5), (4, xi v4_6)]) d65_35 mx65 (by decide) rfl (by decide) ev4_6 rfl ?_
    refine xs_goto (tgt := 14) d65_38 (by decide) ?_
    exact K1 _ _ (Option.some.inj hf).symm
noncomputable def f_Tape_numberAt_l14 (v2 : Int32) (v3 : Int32) (v4 : Int32) (h : xH) : Option Int32 :=
  whl (fun s => f_Tape_numberAt_s14 v2 s.1 s.2 h) (v3, v4)
theorem f_Tape_numberAt_l14_ok {g : xG} {l : Launch} {d : Nat} {v2 : Int32} {v3 : Int32} {v4 : Int32} {h : xH} {o : Int32} {R : Option xV} (hD : 1 ≤ d) (hf : f_Tape_numberAt_l14 v2 v3 v4 h = some o) (K0 : ∀ (a : Int32), o = a → R = some (xi a)) : xEv g l d 65 14 [(0, xr 7 (some 0)), (2, xi v2), (3, xi v3), (4, xi v4)] [] h R h := by
  obtain ⟨n, hn⟩ := whl_iff.mp hf
  clear hf
  induction n generalizing v3 v4 with
  | zero => cases hn
  | succ n ih =>
    obtain ⟨o2, hs, hn⟩ := lk_b (show (f_Tape_numberAt_s14 v2 v3 v4 h).bind (fun o => Sum.elim (itn _ n) some o) = some o from hn)
    exact f_Tape_numberAt_s14_ok hD hs (fun u0 u1 e => ih (by rw [e] at hn; exact hn)) (fun u0 e => K0 u0 (by rw [e] at hn; exact (Option.some.inj hn).symm))
noncomputable def f_Tape_numberAt_e (v1 : Int32) (v2 : Int32) (h : xH) : Option Int32 :=
  if (v2 - v1) ≤ (5 : Int32) then (
  f_Tape_numberAt_l14 v2 (0 : Int32) v1 h) else (
  some ((-1 : Int32)))
set_option maxHeartbeats 4000000 in
set_option maxRecDepth 100000 in
theorem f_Tape_numberAt_e_ok {g : xG} {l : Launch} {d : Nat} {v1 : Int32} {v2 : Int32} {h : xH} {o : Int32} {R : Option xV} (hD : 1 ≤ d) (hf : f_Tape_numberAt_e v1 v2 h = some o) (K0 : ∀ (a : Int32), o = a → R = some (xi a)) : xEv g l d 65 0 [(0, xr 7 (some 0)), (1, xi v1), (2, xi v2)] [] h R h := by
  unfold f_Tape_numberAt_e at hf
  refine xs_iload_n d65_0 rfl ?_
  refine xs_iload_n d65_1 rfl ?_
  refine xs_isub d65_2 ?_
  refine xs_iconst (v := 5) d65_3 (by decide) ?_
  rcases lk_if hf with ⟨hc1, hf⟩ | ⟨hc1, hf⟩
  · refine xs_icmp_le (tgt := 9) d65_4 (by decide) (fun _ => ?_) (fun hn => absurd hc1 hn)
    refine xs_iconst (v := 0) d65_9 (by decide) ?_
    refine xe_istore_n (v := (0 : Int32)) (ls2 := [(0, xr 7 (some 0)), (1, xi v1), (2, xi v2), (3, xi (0 : Int32))]) d65_10 mx65 (by decide) rfl rfl ?_
    refine xs_iload_n d65_11 rfl ?_
    refine xe_istore (v := v1) (ls2 := [(0, xr 7 (some 0)), (1, xi v1), (2, xi v2), (3, xi (0 : Int32)), (4, xi v1)]) d65_12 mx65 (by decide) rfl rfl ?_
    refine xs_pick [0, 2, 3, 4] rfl ?_
    exact f_Tape_numberAt_l14_ok hD hf K0
  · refine xs_icmp_le (tgt := 9) d65_4 (by decide) (fun hp => absurd hp hc1) (fun _ => ?_)
    refine xs_iconst (v := -1) d65_7 (by decide) ?_
    obtain eR := K0 _ (Option.some.inj hf).symm
    subst eR
    exact xs_iret d65_8 rt65
noncomputable def f_Tape_numberAt (v1 : Int32) (v2 : Int32) (h : xH) : Option Int32 := f_Tape_numberAt_e v1 v2 h
theorem f_Tape_numberAt_ok {g : xG} {l : Launch} {d : Nat} {v1 : Int32} {v2 : Int32} {h : xH} {r : Int32} (hD : 1 ≤ d) (hf : f_Tape_numberAt v1 v2 h = some r) : xC g l d 65 [xr 7 (some 0), xi v1, xi v2] h (some (xi r)) h :=
  xC_of2 (by decide) mx65 (Nat.le_of_ble_eq_true rfl) (f_Tape_numberAt_e_ok hD hf (fun _ e => by rw [e]))
theorem d67_0 : decode (xcode 67) 0 = .ok (.iload_n 2, 1) := by decide +kernel
theorem d67_1 : decode (xcode 67) 1 = .ok (.istore 4, 2) := by decide +kernel
theorem d67_3 : decode (xcode 67) 3 = .ok (.iload 4, 2) := by decide +kernel
theorem d67_5 : decode (xcode 67) 5 = .ok (.iload_n 3, 1) := by decide +kernel
theorem d67_6 : decode (xcode 67) 6 = .ok (.if_icmp .ge 41, 3) := by decide +kernel
theorem d67_9 : decode (xcode 67) 9 = .ok (.iload 4, 2) := by decide +kernel
theorem d67_11 : decode (xcode 67) 11 = .ok (.ldc 69, 2) := by decide +kernel
theorem d67_13 : decode (xcode 67) 13 = .ok (.invokevirtual 71, 3) := by decide +kernel
theorem d67_16 : decode (xcode 67) 16 = .ok (.if_icmp .ge 31, 3) := by decide +kernel
theorem d67_19 : decode (xcode 67) 19 = .ok (.ldc 69, 2) := by decide +kernel
theorem d67_21 : decode (xcode 67) 21 = .ok (.iload 4, 2) := by decide +kernel
theorem d67_23 : decode (xcode 67) 23 = .ok (.invokevirtual 76, 3) := by decide +kernel
theorem d67_26 : decode (xcode 67) 26 = .ok (.aload_n 0, 1) := by decide +kernel
theorem d67_27 : decode (xcode 67) 27 = .ok (.iload_n 1, 1) := by decide +kernel
theorem d67_28 : decode (xcode 67) 28 = .ok (.iload 4, 2) := by decide +kernel
theorem d67_30 : decode (xcode 67) 30 = .ok (.iadd, 1) := by decide +kernel
theorem d67_31 : decode (xcode 67) 31 = .ok (.iload_n 2, 1) := by decide +kernel
theorem d67_32 : decode (xcode 67) 32 = .ok (.isub, 1) := by decide +kernel
theorem d67_33 : decode (xcode 67) 33 = .ok (.invokevirtual 29, 3) := by decide +kernel
theorem d67_36 : decode (xcode 67) 36 = .ok (.if_icmp .eq 5, 3) := by decide +kernel
theorem d67_39 : decode (xcode 67) 39 = .ok (.iconst 0, 1) := by decide +kernel
theorem d67_40 : decode (xcode 67) 40 = .ok (.ireturn, 1) := by decide +kernel
theorem d67_41 : decode (xcode 67) 41 = .ok (.iinc 4 1, 3) := by decide +kernel
theorem d67_44 : decode (xcode 67) 44 = .ok (.goto (-41), 3) := by decide +kernel
theorem d67_47 : decode (xcode 67) 47 = .ok (.iconst 1, 1) := by decide +kernel
theorem d67_48 : decode (xcode 67) 48 = .ok (.ireturn, 1) := by decide +kernel
noncomputable def f_Tape_isSpelt_s3 (v1 : Int32) (v2 : Int32) (v3 : Int32) (v4 : Int32) (h : xH) : Option ((Int32) ⊕ Int32) :=
  if v3 ≤ v4 then (
  some (Sum.inr ((1 : Int32)))) else (
  if (Int32.ofNat xWords.length) ≤ v4 then (
  some (Sum.inr ((1 : Int32)))) else (
  if xib v4 xWords.length then (
  (f_Tape_byteAt ((v1 + v4) - v2) h).bind fun r4 =>
  if (xwc (v4).toNatClampNeg) = r4 then (
  xlet (v4 + (1 : Int32)) fun v4_7 =>
  some (Sum.inl v4_7)) else (
  some (Sum.inr ((0 : Int32))))) else none))
set_option maxHeartbeats 4000000 in
set_option maxRecDepth 100000 in
theorem f_Tape_isSpelt_s3_ok {g : xG} {l : Launch} {d : Nat} {v1 : Int32} {v2 : Int32} {v3 : Int32} {v4 : Int32} {h : xH} {o : ((Int32) ⊕ Int32)} {R : Option xV} (hD : 4 ≤ d) (hf : f_Tape_isSpelt_s3 v1 v2 v3 v4 h = some o) (K1 : ∀ (w4 : Int32), o = Sum.inl w4 → xEv g l d 67 3 [(0, xr 7 (some 0)), (1, xi v1), (2, xi v2), (3, xi v3), (4, xi w4)] [] h R h) (K0 : ∀ (a : Int32), o = Sum.inr (a) → R = some (xi a)) : xEv g l d 67 3 [(0, xr 7 (some 0)), (1, xi v1), (2, xi v2), (3, xi v3), (4, xi v4)] [] h R h := by
  unfold f_Tape_isSpelt_s3 at hf
  refine xs_iload d67_3 rfl ?_
  refine xs_iload_n d67_5 rfl ?_
  rcases lk_if hf with ⟨hc1, hf⟩ | ⟨hc1, hf⟩
  · refine xs_icmp_ge (tgt := 47) d67_6 (by decide) (fun _ => ?_) (fun hn => absurd hc1 hn)
    refine xs_iconst (v := 1) d67_47 (by decide) ?_
    obtain eR := K0 _ (Option.some.inj hf).symm
    subst eR
    exact xe_zret d67_48 (Or.inr rfl) rt67
  · refine xs_icmp_ge (tgt := 47) d67_6 (by decide) (fun hp => absurd hp hc1) (fun _ => ?_)
    refine xs_iload d67_9 rfl ?_
    refine xs_wlen d67_11 d67_13 ky67 (Nat.le_of_ble_eq_true rfl) (by omega) ?_
    rcases lk_if hf with ⟨hc2, hf⟩ | ⟨hc2, hf⟩
    · refine xs_icmp_ge (tgt := 47) d67_16 (by decide) (fun _ => ?_) (fun hn => absurd hc2 hn)
      refine xs_iconst (v := 1) d67_47 (by decide) ?_
      obtain eR := K0 _ (Option.some.inj hf).symm
      subst eR
      exact xe_zret d67_48 (Or.inr rfl) rt67
    · refine xs_icmp_ge (tgt := 47) d67_16 (by decide) (fun hp => absurd hp hc2) (fun _ => ?_)
      obtain ⟨hin3, hf⟩ := lk_g hf
      refine xs_wchr d67_19 d67_21 d67_23 ky67 rfl hin3 (Nat.le_of_ble_eq_true rfl) (by omega) ?_
      refine xs_aload_n d67_26 rfl ?_
      refine xs_iload_n d67_27 rfl ?_
      refine xs_iload d67_28 rfl ?_
      refine xs_iadd d67_30 ?_
      refine xs_iload_n d67_31 rfl ?_
      refine xs_isub d67_32 ?_
      obtain ⟨r4, hc5, hf⟩ := lk_b hf
      refine xe_callv1 (as := [xi ((v1 + v4) - v2)]) (st := [xi (xwc (v4).toNatClampNeg)]) (h2 := h) (d2 := d - 1) d67_33 ky67 ml9 st58 (by decide) cn58 rfl na58 (Nat.le_of_ble_eq_true rfl) (by omega) (f_Tape_byteAt_ok (by omega) hc5) ?_
      rcases lk_if hf with ⟨hc6, hf⟩ | ⟨hc6, hf⟩
      · refine xs_icmp_eq (tgt := 41) d67_36 (by decide) (fun _ => ?_) (fun hn => absurd hc6 hn)
        obtain ⟨v4_7, ev4_7, hf⟩ := lk_let hf
        refine xe_iinc (v := v4_7) (b := 1) (ls2 := [(0, xr 7 (some 0)), (1, xi v1), (2, xi v2), (3, xi v3), (4, xi v4_7)]) d67_41 mx67 (by decide) rfl (by decide) ev4_7 rfl ?_
        refine xs_goto (tgt := 3) d67_44 (by decide) ?_
        exact K1 _ (Option.some.inj hf).symm
      · refine xs_icmp_eq (tgt := 41) d67_36 (by decide) (fun hp => absurd hp hc6) (fun _ => ?_)
        refine xs_iconst (v := 0) d67_39 (by decide) ?_
        obtain eR := K0 _ (Option.some.inj hf).symm
        subst eR
        exact xe_zret d67_40 (Or.inl rfl) rt67
noncomputable def f_Tape_isSpelt_l3 (v1 : Int32) (v2 : Int32) (v3 : Int32) (v4 : Int32) (h : xH) : Option Int32 :=
  whl (fun s => f_Tape_isSpelt_s3 v1 v2 v3 s h) v4
theorem f_Tape_isSpelt_l3_ok {g : xG} {l : Launch} {d : Nat} {v1 : Int32} {v2 : Int32} {v3 : Int32} {v4 : Int32} {h : xH} {o : Int32} {R : Option xV} (hD : 4 ≤ d) (hf : f_Tape_isSpelt_l3 v1 v2 v3 v4 h = some o) (K0 : ∀ (a : Int32), o = a → R = some (xi a)) : xEv g l d 67 3 [(0, xr 7 (some 0)), (1, xi v1), (2, xi v2), (3, xi v3), (4, xi v4)] [] h R h := by
  obtain ⟨n, hn⟩ := whl_iff.mp hf
  clear hf
  induction n generalizing v4 with
  | zero => cases hn
  | succ n ih =>
    obtain ⟨o2, hs, hn⟩ := lk_b (show (f_Tape_isSpelt_s3 v1 v2 v3 v4 h).bind (fun o => Sum.elim (itn _ n) some o) = some o from hn)
    exact f_Tape_isSpelt_s3_ok hD hs (fun u0 e => ih (by rw [e] at hn; exact hn)) (fun u0 e => K0 u0 (by rw [e] at hn; exact (Option.some.inj hn).symm))
noncomputable def f_Tape_isSpelt_e (v1 : Int32) (v2 : Int32) (v3 : Int32) (h : xH) : Option Int32 :=
  f_Tape_isSpelt_l3 v1 v2 v3 v2 h
set_option maxHeartbeats 4000000 in
set_option maxRecDepth 100000 in
theorem f_Tape_isSpelt_e_ok {g : xG} {l : Launch} {d : Nat} {v1 : Int32} {v2 : Int32} {v3 : Int32} {h : xH} {o : Int32} {R : Option xV} (hD : 4 ≤ d) (hf : f_Tape_isSpelt_e v1 v2 v3 h = some o) (K0 : ∀ (a : Int32), o = a → R = some (xi a)) : xEv g l d 67 0 [(0, xr 7 (some 0)), (1, xi v1), (2, xi v2), (3, xi v3)] [] h R h := by
  unfold f_Tape_isSpelt_e at hf
  refine xs_iload_n d67_0 rfl ?_
  refine xe_istore (v := v2) (ls2 := [(0, xr 7 (some 0)), (1, xi v1), (2, xi v2), (3, xi v3), (4, xi v2)]) d67_1 mx67 (by decide) rfl rfl ?_
  exact f_Tape_isSpelt_l3_ok hD hf K0
noncomputable def f_Tape_isSpelt (v1 : Int32) (v2 : Int32) (v3 : Int32) (h : xH) : Option Int32 := f_Tape_isSpelt_e v1 v2 v3 h
theorem f_Tape_isSpelt_ok {g : xG} {l : Launch} {d : Nat} {v1 : Int32} {v2 : Int32} {v3 : Int32} {h : xH} {r : Int32} (hD : 4 ≤ d) (hf : f_Tape_isSpelt v1 v2 v3 h = some r) : xC g l d 67 [xr 7 (some 0), xi v1, xi v2, xi v3] h (some (xi r)) h :=
  xC_of2 (by decide) mx67 (Nat.le_of_ble_eq_true rfl) (f_Tape_isSpelt_e_ok hD hf (fun _ e => by rw [e]))
theorem d66_0 : decode (xcode 66) 0 = .ok (.iconst 0, 1) := by decide +kernel
theorem d66_1 : decode (xcode 66) 1 = .ok (.istore_n 3, 1) := by decide +kernel
theorem d66_2 : decode (xcode 66) 2 = .ok (.iconst 0, 1) := by decide +kernel
theorem d66_3 : decode (xcode 66) 3 = .ok (.istore 4, 2) := by decide +kernel
theorem d66_5 : decode (xcode 66) 5 = .ok (.iconst 0, 1) := by decide +kernel
theorem d66_6 : decode (xcode 66) 6 = .ok (.istore 5, 2) := by decide +kernel
theorem d66_8 : decode (xcode 66) 8 = .ok (.iload 5, 2) := by decide +kernel
theorem d66_10 : decode (xcode 66) 10 = .ok (.ldc 69, 2) := by decide +kernel
theorem d66_12 : decode (xcode 66) 12 = .ok (.invokevirtual 71, 3) := by decide +kernel
theorem d66_15 : decode (xcode 66) 15 = .ok (.if_icmp .gt 65, 3) := by decide +kernel
theorem d66_18 : decode (xcode 66) 18 = .ok (.iload 5, 2) := by decide +kernel
theorem d66_20 : decode (xcode 66) 20 = .ok (.ldc 69, 2) := by decide +kernel
theorem d66_22 : decode (xcode 66) 22 = .ok (.invokevirtual 71, 3) := by decide +kernel
theorem d66_25 : decode (xcode 66) 25 = .ok (.if_icmp .eq 15, 3) := by decide +kernel
theorem d66_28 : decode (xcode 66) 28 = .ok (.ldc 69, 2) := by decide +kernel
theorem d66_30 : decode (xcode 66) 30 = .ok (.iload 5, 2) := by decide +kernel
theorem d66_32 : decode (xcode 66) 32 = .ok (.invokevirtual 76, 3) := by decide +kernel
theorem d66_35 : decode (xcode 66) 35 = .ok (.bipush 32, 2) := by decide +kernel
theorem d66_37 : decode (xcode 66) 37 = .ok (.if_icmp .ne 37, 3) := by decide +kernel
theorem d66_40 : decode (xcode 66) 40 = .ok (.iload 5, 2) := by decide +kernel
theorem d66_42 : decode (xcode 66) 42 = .ok (.iload 4, 2) := by decide +kernel
theorem d66_44 : decode (xcode 66) 44 = .ok (.isub, 1) := by decide +kernel
theorem d66_45 : decode (xcode 66) 45 = .ok (.iload_n 2, 1) := by decide +kernel
theorem d66_46 : decode (xcode 66) 46 = .ok (.iload_n 1, 1) := by decide +kernel
theorem d66_47 : decode (xcode 66) 47 = .ok (.isub, 1) := by decide +kernel
theorem d66_48 : decode (xcode 66) 48 = .ok (.if_icmp .ne 17, 3) := by decide +kernel
theorem d66_51 : decode (xcode 66) 51 = .ok (.aload_n 0, 1) := by decide +kernel
theorem d66_52 : decode (xcode 66) 52 = .ok (.iload_n 1, 1) := by decide +kernel
theorem d66_53 : decode (xcode 66) 53 = .ok (.iload 4, 2) := by decide +kernel
theorem d66_55 : decode (xcode 66) 55 = .ok (.iload 5, 2) := by decide +kernel
theorem d66_57 : decode (xcode 66) 57 = .ok (.invokevirtual 80, 3) := by decide +kernel
theorem d66_60 : decode (xcode 66) 60 = .ok (.ifCond .eq 5, 3) := by decide +kernel
theorem d66_63 : decode (xcode 66) 63 = .ok (.iload_n 3, 1) := by decide +kernel
theorem d66_64 : decode (xcode 66) 64 = .ok (.ireturn, 1) := by decide +kernel
theorem d66_65 : decode (xcode 66) 65 = .ok (.iinc 3 1, 3) := by decide +kernel
theorem d66_68 : decode (xcode 66) 68 = .ok (.iload 5, 2) := by decide +kernel
theorem d66_70 : decode (xcode 66) 70 = .ok (.iconst 1, 1) := by decide +kernel
theorem d66_71 : decode (xcode 66) 71 = .ok (.iadd, 1) := by decide +kernel
theorem d66_72 : decode (xcode 66) 72 = .ok (.istore 4, 2) := by decide +kernel
theorem d66_74 : decode (xcode 66) 74 = .ok (.iinc 5 1, 3) := by decide +kernel
theorem d66_77 : decode (xcode 66) 77 = .ok (.goto (-69), 3) := by decide +kernel
theorem d66_80 : decode (xcode 66) 80 = .ok (.iconst (-1), 1) := by decide +kernel
theorem d66_81 : decode (xcode 66) 81 = .ok (.ireturn, 1) := by decide +kernel
noncomputable def f_Tape_wordAt_b74 (v1 : Int32) (v2 : Int32) (v3 : Int32) (v4 : Int32) (v5 : Int32) (h : xH) : Option ((Int32 × Int32 × Int32) ⊕ Int32) :=
  xlet (v5 + (1 : Int32)) fun v5_9 =>
  some (Sum.inl (v3, v4, v5_9))
set_option maxHeartbeats 4000000 in
set_option maxRecDepth 100000 in
theorem f_Tape_wordAt_b74_ok {g : xG} {l : Launch} {d : Nat} {v1 : Int32} {v2 : Int32} {v3 : Int32} {v4 : Int32} {v5 : Int32} {h : xH} {o : ((Int32 × Int32 × Int32) ⊕ Int32)} {R : Option xV} (hD : 5 ≤ d) (hf : f_Tape_wordAt_b74 v1 v2 v3 v4 v5 h = some o) (K1 : ∀ (w3 : Int32) (w4 : Int32) (w5 : Int32), o = Sum.inl (w3, w4, w5) → xEv g l d 66 8 [(0, xr 7 (some 0)), (1, xi v1), (2, xi v2), (3, xi w3), (4, xi w4), (5, xi w5)] [] h R h) (K0 : ∀ (a : Int32), o = Sum.inr (a) → R = some (xi a)) : xEv g l d 66 74 [(0, xr 7 (some 0)), (1, xi v1), (2, xi v2), (3, xi v3), (4, xi v4), (5, xi v5)] [] h R h := by
  unfold f_Tape_wordAt_b74 at hf
  obtain ⟨v5_9, ev5_9, hf⟩ := lk_let hf
  refine xe_iinc (v := v5_9) (b := 1) (ls2 := [(0, xr 7 (some 0)), (1, xi v1), (2, xi v2), (3, xi v3), (4, xi v4), (5, xi v5_9)]) d66_74 mx66 (by decide) rfl (by decide) ev5_9 rfl ?_
  refine xs_goto (tgt := 8) d66_77 (by decide) ?_
  exact K1 _ _ _ (Option.some.inj hf).symm
noncomputable def f_Tape_wordAt_b65 (v1 : Int32) (v2 : Int32) (v3 : Int32) (v5 : Int32) (h : xH) : Option ((Int32 × Int32 × Int32) ⊕ Int32) :=
  xlet (v3 + (1 : Int32)) fun v3_7 =>
  xlet (v5 + (1 : Int32)) fun v4_8 =>
  f_Tape_wordAt_b74 v1 v2 v3_7 v4_8 v5 h
set_option maxHeartbeats 4000000 in
set_option maxRecDepth 100000 in
theorem f_Tape_wordAt_b65_ok {g : xG} {l : Launch} {d : Nat} {v1 : Int32} {v2 : Int32} {v3 : Int32} {v5 : Int32} {h : xH} {o : ((Int32 × Int32 × Int32) ⊕ Int32)} {R : Option xV} (hD : 5 ≤ d) (hf : f_Tape_wordAt_b65 v1 v2 v3 v5 h = some o) (K1 : ∀ (w3 : Int32) (w4 : Int32) (w5 : Int32), o = Sum.inl (w3, w4, w5) → xEv g l d 66 8 [(0, xr 7 (some 0)), (1, xi v1), (2, xi v2), (3, xi w3), (4, xi w4), (5, xi w5)] [] h R h) (K0 : ∀ (a : Int32), o = Sum.inr (a) → R = some (xi a)) : xEv g l d 66 65 [(0, xr 7 (some 0)), (1, xi v1), (2, xi v2), (3, xi v3), (5, xi v5)] [] h R h := by
  unfold f_Tape_wordAt_b65 at hf
  obtain ⟨v3_7, ev3_7, hf⟩ := lk_let hf
  refine xe_iinc (v := v3_7) (b := 1) (ls2 := [(0, xr 7 (some 0)), (1, xi v1), (2, xi v2), (3, xi v3_7), (5, xi v5)]) d66_65 mx66 (by decide) rfl (by decide) ev3_7 rfl ?_
  refine xs_iload d66_68 rfl ?_
  refine xs_iconst (v := 1) d66_70 (by decide) ?_
  refine xs_iadd d66_71 ?_
  obtain ⟨v4_8, ev4_8, hf⟩ := lk_let hf
  refine xe_istore (v := v4_8) (ls2 := [(0, xr 7 (some 0)), (1, xi v1), (2, xi v2), (3, xi v3_7), (4, xi v4_8), (5, xi v5)]) d66_72 mx66 (by decide) ev4_8 rfl ?_
  exact f_Tape_wordAt_b74_ok hD hf K1 K0
noncomputable def f_Tape_wordAt_b40 (v1 : Int32) (v2 : Int32) (v3 : Int32) (v4 : Int32) (v5 : Int32) (h : xH) : Option ((Int32 × Int32 × Int32) ⊕ Int32) :=
  if (v5 - v4) = (v2 - v1) then (
  (f_Tape_isSpelt v1 v4 v5 h).bind fun r4 =>
  if r4 = (0 : Int32) then (
  f_Tape_wordAt_b65 v1 v2 v3 v5 h) else (
  some (Sum.inr (v3)))) else (
  f_Tape_wordAt_b65 v1 v2 v3 v5 h)
set_option maxHeartbeats 4000000 in
set_option maxRecDepth 100000 in
theorem f_Tape_wordAt_b40_ok {g : xG} {l : Launch} {d : Nat} {v1 : Int32} {v2 : Int32} {v3 : Int32} {v4 : Int32} {v5 : Int32} {h : xH} {o : ((Int32 × Int32 × Int32) ⊕ Int32)} {R : Option xV} (hD : 5 ≤ d) (hf : f_Tape_wordAt_b40 v1 v2 v3 v4 v5 h = some o) (K1 : ∀ (w3 : Int32) (w4 : Int32) (w5 : Int32), o = Sum.inl (w3, w4, w5) → xEv g l d 66 8 [(0, xr 7 (some 0)), (1, xi v1), (2, xi v2), (3, xi w3), (4, xi w4), (5, xi w5)] [] h R h) (K0 : ∀ (a : Int32), o = Sum.inr (a) → R = some (xi a)) : xEv g l d 66 40 [(0, xr 7 (some 0)), (1, xi v1), (2, xi v2), (3, xi v3), (4, xi v4), (5, xi v5)] [] h R h := by
  unfold f_Tape_wordAt_b40 at hf
  refine xs_iload d66_40 rfl ?_
  refine xs_iload d66_42 rfl ?_
  refine xs_isub d66_44 ?_
  refine xs_iload_n d66_45 rfl ?_
  refine xs_iload_n d66_46 rfl ?_
  refine xs_isub d66_47 ?_
  rcases lk_if hf with ⟨hc3, hf⟩ | ⟨hc3, hf⟩
  · refine xs_icmp_ne (tgt := 65) d66_48 (by decide) (fun _ => ?_) (fun hn => absurd hc3 hn)
    refine xs_aload_n d66_51 rfl ?_
    refine xs_iload_n d66_52 rfl ?_
    refine xs_iload d66_53 rfl ?_
    refine xs_iload d66_55 rfl ?_
    obtain ⟨r4, hc5, hf⟩ := lk_b hf
    refine xe_callv1 (as := [xi v1, xi v4, xi v5]) (st := []) (h2 := h) (d2 := d - 1) d66_57 ky66 ml13 st67 (by decide) cn67 rfl na67 (Nat.le_of_ble_eq_true rfl) (by omega) (f_Tape_isSpelt_ok (by omega) hc5) ?_
    rcases lk_if hf with ⟨hc6, hf⟩ | ⟨hc6, hf⟩
    · refine xs_if_eq (tgt := 65) d66_60 (by decide) (fun _ => ?_) (fun hn => absurd hc6 hn)
      refine xs_pick [0, 1, 2, 3, 5] rfl ?_
      exact f_Tape_wordAt_b65_ok hD hf K1 K0
    · refine xs_if_eq (tgt := 65) d66_60 (by decide) (fun hp => absurd hp hc6) (fun _ => ?_)
      refine xs_iload_n d66_63 rfl ?_
      obtain eR := K0 _ (Option.some.inj hf).symm
      subst eR
      exact xs_iret d66_64 rt66
  · refine xs_icmp_ne (tgt := 65) d66_48 (by decide) (fun hp => absurd hp hc3) (fun _ => ?_)
    refine xs_pick [0, 1, 2, 3, 5] rfl ?_
    exact f_Tape_wordAt_b65_ok hD hf K1 K0
noncomputable def f_Tape_wordAt_s8 (v1 : Int32) (v2 : Int32) (v3 : Int32) (v4 : Int32) (v5 : Int32) (h : xH) : Option ((Int32 × Int32 × Int32) ⊕ Int32) :=
  if (Int32.ofNat xWords.length) < v5 then (
  some (Sum.inr ((-1 : Int32)))) else (
  if v5 = (Int32.ofNat xWords.length) then (
  f_Tape_wordAt_b40 v1 v2 v3 v4 v5 h) else (
  if xib v5 xWords.length then (
  if (xwc (v5).toNatClampNeg) = (32 : Int32) then (
  f_Tape_wordAt_b40 v1 v2 v3 v4 v5 h) else (
  f_Tape_wordAt_b74 v1 v2 v3 v4 v5 h)) else none))
set_option maxHeartbeats 4000000 in
set_option maxRecDepth 100000 in
theorem f_Tape_wordAt_s8_ok {g : xG} {l : Launch} {d : Nat} {v1 : Int32} {v2 : Int32} {v3 : Int32} {v4 : Int32} {v5 : Int32} {h : xH} {o : ((Int32 × Int32 × Int32) ⊕ Int32)} {R : Option xV} (hD : 5 ≤ d) (hf : f_Tape_wordAt_s8 v1 v2 v3 v4 v5 h = some o) (K1 : ∀ (w3 : Int32) (w4 : Int32) (w5 : Int32), o = Sum.inl (w3, w4, w5) → xEv g l d 66 8 [(0, xr 7 (some 0)), (1, xi v1), (2, xi v2), (3, xi w3), (4, xi w4), (5, xi w5)] [] h R h) (K0 : ∀ (a : Int32), o = Sum.inr (a) → R = some (xi a)) : xEv g l d 66 8 [(0, xr 7 (some 0)), (1, xi v1), (2, xi v2), (3, xi v3), (4, xi v4), (5, xi v5)] [] h R h := by
  unfold f_Tape_wordAt_s8 at hf
  refine xs_iload d66_8 rfl ?_
  refine xs_wlen d66_10 d66_12 ky66 (Nat.le_of_ble_eq_true rfl) (by omega) ?_
  rcases lk_if hf with ⟨hc1, hf⟩ | ⟨hc1, hf⟩
  · refine xs_icmp_gt (tgt := 80) d66_15 (by decide) (fun _ => ?_) (fun hn => absurd hc1 hn)
    refine xs_iconst (v := -1) d66_80 (by decide) ?_
    obtain eR := K0 _ (Option.some.inj hf).symm
    subst eR
    exact xs_iret d66_81 rt66
  · refine xs_icmp_gt (tgt := 80) d66_15 (by decide) (fun hp => absurd hp hc1) (fun _ => ?_)
    refine xs_iload d66_18 rfl ?_
    refine xs_wlen d66_20 d66_22 ky66 (Nat.le_of_ble_eq_true rfl) (by omega) ?_
    rcases lk_if hf with ⟨hc2, hf⟩ | ⟨hc2, hf⟩
    · refine xs_icmp_eq (tgt := 40) d66_25 (by decide) (fun _ => ?_) (fun hn => absurd hc2 hn)
      exact f_Tape_wordAt_b40_ok hD hf K1 K0
    · refine xs_icmp_eq (tgt := 40) d66_25 (by decide) (fun hp => absurd hp hc2) (fun _ => ?_)
      obtain ⟨hin10, hf⟩ := lk_g hf
      refine xs_wchr d66_28 d66_30 d66_32 ky66 rfl hin10 (Nat.le_of_ble_eq_true rfl) (by omega) ?_
      refine xs_bipush (v := 32) d66_35 (by decide) ?_
      rcases lk_if hf with ⟨hc11, hf⟩ | ⟨hc11, hf⟩
      · refine xs_icmp_ne (tgt := 74) d66_37 (by decide) (fun _ => ?_) (fun hn => absurd hc11 hn)
        exact f_Tape_wordAt_b40_ok hD hf K1 K0
      · refine xs_icmp_ne (tgt := 74) d66_37 (by decide) (fun hp => absurd hp hc11) (fun _ => ?_)
        exact f_Tape_wordAt_b74_ok hD hf K1 K0
noncomputable def f_Tape_wordAt_l8 (v1 : Int32) (v2 : Int32) (v3 : Int32) (v4 : Int32) (v5 : Int32) (h : xH) : Option Int32 :=
  whl (fun s => f_Tape_wordAt_s8 v1 v2 s.1 s.2.1 s.2.2 h) (v3, v4, v5)
theorem f_Tape_wordAt_l8_ok {g : xG} {l : Launch} {d : Nat} {v1 : Int32} {v2 : Int32} {v3 : Int32} {v4 : Int32} {v5 : Int32} {h : xH} {o : Int32} {R : Option xV} (hD : 5 ≤ d) (hf : f_Tape_wordAt_l8 v1 v2 v3 v4 v5 h = some o) (K0 : ∀ (a : Int32), o = a → R = some (xi a)) : xEv g l d 66 8 [(0, xr 7 (some 0)), (1, xi v1), (2, xi v2), (3, xi v3), (4, xi v4), (5, xi v5)] [] h R h := by
  obtain ⟨n, hn⟩ := whl_iff.mp hf
  clear hf
  induction n generalizing v3 v4 v5 with
  | zero => cases hn
  | succ n ih =>
    obtain ⟨o2, hs, hn⟩ := lk_b (show (f_Tape_wordAt_s8 v1 v2 v3 v4 v5 h).bind (fun o => Sum.elim (itn _ n) some o) = some o from hn)
    exact f_Tape_wordAt_s8_ok hD hs (fun u0 u1 u2 e => ih (by rw [e] at hn; exact hn)) (fun u0 e => K0 u0 (by rw [e] at hn; exact (Option.some.inj hn).symm))
noncomputable def f_Tape_wordAt_e (v1 : Int32) (v2 : Int32) (h : xH) : Option Int32 :=
  f_Tape_wordAt_l8 v1 v2 (0 : Int32) (0 : Int32) (0 : Int32) h
set_option maxHeartbeats 4000000 in
set_option maxRecDepth 100000 in
theorem f_Tape_wordAt_e_ok {g : xG} {l : Launch} {d : Nat} {v1 : Int32} {v2 : Int32} {h : xH} {o : Int32} {R : Option xV} (hD : 5 ≤ d) (hf : f_Tape_wordAt_e v1 v2 h = some o) (K0 : ∀ (a : Int32), o = a → R = some (xi a)) : xEv g l d 66 0 [(0, xr 7 (some 0)), (1, xi v1), (2, xi v2)] [] h R h := by
  unfold f_Tape_wordAt_e at hf
  refine xs_iconst (v := 0) d66_0 (by decide) ?_
  refine xe_istore_n (v := (0 : Int32)) (ls2 := [(0, xr 7 (some 0)), (1, xi v1), (2, xi v2), (3, xi (0 : Int32))]) d66_1 mx66 (by decide) rfl rfl ?_
  refine xs_iconst (v := 0) d66_2 (by decide) ?_
  refine xe_istore (v := (0 : Int32)) (ls2 := [(0, xr 7 (some 0)), (1, xi v1), (2, xi v2), (3, xi (0 : Int32)), (4, xi (0 : Int32))]) d66_3 mx66 (by decide) rfl rfl ?_
  refine xs_iconst (v := 0) d66_5 (by decide) ?_
  refine xe_istore (v := (0 : Int32)) (ls2 := [(0, xr 7 (some 0)), (1, xi v1), (2, xi v2), (3, xi (0 : Int32)), (4, xi (0 : Int32)), (5, xi (0 : Int32))]) d66_6 mx66 (by decide) rfl rfl ?_
  exact f_Tape_wordAt_l8_ok hD hf K0
noncomputable def f_Tape_wordAt (v1 : Int32) (v2 : Int32) (h : xH) : Option Int32 := f_Tape_wordAt_e v1 v2 h
theorem f_Tape_wordAt_ok {g : xG} {l : Launch} {d : Nat} {v1 : Int32} {v2 : Int32} {h : xH} {r : Int32} (hD : 5 ≤ d) (hf : f_Tape_wordAt v1 v2 h = some r) : xC g l d 66 [xr 7 (some 0), xi v1, xi v2] h (some (xi r)) h :=
  xC_of2 (by decide) mx66 (Nat.le_of_ble_eq_true rfl) (f_Tape_wordAt_e_ok hD hf (fun _ e => by rw [e]))
