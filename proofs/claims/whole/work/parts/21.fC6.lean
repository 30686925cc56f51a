theorem d118_0 : decode (xcode 118) 0 = .ok (.aload_n 0, 1) := by decide +kernel
theorem d118_1 : decode (xcode 118) 1 = .ok (.getfield 55, 3) := by decide +kernel
theorem d118_4 : decode (xcode 118) 4 = .ok (.getfield 114, 3) := by decide +kernel
theorem d118_7 : decode (xcode 118) 7 = .ok (.getfield 173, 3) := by decide +kernel
theorem d118_10 : decode (xcode 118) 10 = .ok (.ifCond .eq 12, 3) := by decide +kernel
theorem d118_13 : decode (xcode 118) 13 = .ok (.iload_n 1, 1) := by decide +kernel
theorem d118_14 : decode (xcode 118) 14 = .ok (.ifCond .lt 8, 3) := by decide +kernel
theorem d118_17 : decode (xcode 118) 17 = .ok (.iload_n 1, 1) := by decide +kernel
theorem d118_18 : decode (xcode 118) 18 = .ok (.iconst 1, 1) := by decide +kernel
theorem d118_19 : decode (xcode 118) 19 = .ok (.if_icmp .le 7, 3) := by decide +kernel
theorem d118_22 : decode (xcode 118) 22 = .ok (.sipush (-1000), 3) := by decide +kernel
theorem d118_25 : decode (xcode 118) 25 = .ok (.ireturn, 1) := by decide +kernel
theorem d118_26 : decode (xcode 118) 26 = .ok (.aload_n 0, 1) := by decide +kernel
theorem d118_27 : decode (xcode 118) 27 = .ok (.getfield 84, 3) := by decide +kernel
theorem d118_30 : decode (xcode 118) 30 = .ok (.aload_n 0, 1) := by decide +kernel
theorem d118_31 : decode (xcode 118) 31 = .ok (.getfield 55, 3) := by decide +kernel
theorem d118_34 : decode (xcode 118) 34 = .ok (.getfield 114, 3) := by decide +kernel
theorem d118_37 : decode (xcode 118) 37 = .ok (.aload_n 0, 1) := by decide +kernel
theorem d118_38 : decode (xcode 118) 38 = .ok (.getfield 55, 3) := by decide +kernel
theorem d118_41 : decode (xcode 118) 41 = .ok (.getfield 121, 3) := by decide +kernel
theorem d118_44 : decode (xcode 118) 44 = .ok (.invokevirtual 297, 3) := by decide +kernel
theorem d118_47 : decode (xcode 118) 47 = .ok (.iload_n 1, 1) := by decide +kernel
theorem d118_48 : decode (xcode 118) 48 = .ok (.ifCond .ne 13, 3) := by decide +kernel
theorem d118_51 : decode (xcode 118) 51 = .ok (.aload_n 0, 1) := by decide +kernel
theorem d118_52 : decode (xcode 118) 52 = .ok (.getfield 84, 3) := by decide +kernel
theorem d118_55 : decode (xcode 118) 55 = .ok (.getfield 300, 3) := by decide +kernel
theorem d118_58 : decode (xcode 118) 58 = .ok (.goto 10, 3) := by decide +kernel
theorem d118_61 : decode (xcode 118) 61 = .ok (.aload_n 0, 1) := by decide +kernel
theorem d118_62 : decode (xcode 118) 62 = .ok (.getfield 84, 3) := by decide +kernel
theorem d118_65 : decode (xcode 118) 65 = .ok (.getfield 303, 3) := by decide +kernel
theorem d118_68 : decode (xcode 118) 68 = .ok (.ireturn, 1) := by decide +kernel
noncomputable def f_B_game_e (v1 : Int32) (h : xH) : Option (Int32 × xH) :=
  if (h.1 8 0 0) = (0 : Int32) then (
  some (((-1000 : Int32), h))) else (
  if v1 < (0 : Int32) then (
  some (((-1000 : Int32), h))) else (
  if v1 ≤ (1 : Int32) then (
  (f_Sets_findGame 0 0 h).bind fun h6 =>
  if v1 = (0 : Int32) then (
  some ((h6.1 5 6 0, h6))) else (
  some ((h6.1 5 7 0, h6)))) else (
  some (((-1000 : Int32), h)))))
set_option maxHeartbeats 4000000 in
set_option maxRecDepth 100000 in
theorem f_B_game_e_ok {g : xG} {l : Launch} {d : Nat} {v1 : Int32} {h : xH} {o : (Int32 × xH)} {R : Option xV} {H' : xH} (hD : 2 ≤ d) (hf : f_B_game_e v1 h = some o) (K0 : ∀ (a : Int32) (h1 : xH), o = (a, h1) → R = some (xi a) ∧ H' = h1) : xEv g l d 118 0 [(0, xr 11 (some 0)), (1, xi v1)] [] h R H' := by
  unfold f_B_game_e at hf
  refine xs_aload_n d118_0 rfl ?_
  refine xe_getc (j := 0) d118_1 ky118 fl153 fk11_6 rfl ?_
  refine xe_getc (j := 0) d118_4 ky118 fl96 fk4_0 rfl ?_
  refine xe_geti d118_7 ky118 fl19 fk8_0 ?_
  rcases lk_if hf with ⟨hc1, hf⟩ | ⟨hc1, hf⟩
  · refine xs_if_eq (tgt := 22) d118_10 (by decide) (fun _ => ?_) (fun hn => absurd hc1 hn)
    refine xs_sipush (v := -1000) d118_22 (by decide) ?_
    obtain ⟨eR, eH⟩ := K0 _ _ (Option.some.inj hf).symm
    subst eR; subst eH
    exact xs_iret d118_25 rt118
  · refine xs_if_eq (tgt := 22) d118_10 (by decide) (fun hp => absurd hp hc1) (fun _ => ?_)
    refine xs_iload_n d118_13 rfl ?_
    rcases lk_if hf with ⟨hc2, hf⟩ | ⟨hc2, hf⟩
    · refine xs_if_lt (tgt := 22) d118_14 (by decide) (fun _ => ?_) (fun hn => absurd hc2 hn)
      refine xs_sipush (v := -1000) d118_22 (by decide) ?_
      obtain ⟨eR, eH⟩ := K0 _ _ (Option.some.inj hf).symm
      subst eR; subst eH
      exact xs_iret d118_25 rt118
    · refine xs_if_lt (tgt := 22) d118_14 (by decide) (fun hp => absurd hp hc2) (fun _ => ?_)
      refine xs_iload_n d118_17 rfl ?_
      refine xs_iconst (v := 1) d118_18 (by decide) ?_
      rcases lk_if hf with ⟨hc3, hf⟩ | ⟨hc3, hf⟩
      · refine xs_icmp_le (tgt := 26) d118_19 (by decide) (fun _ => ?_) (fun hn => absurd hc3 hn)
        refine xs_aload_n d118_26 rfl ?_
        refine xe_getc (j := 0) d118_27 ky118 fl158 fk11_11 rfl ?_
        refine xs_aload_n d118_30 rfl ?_
        refine xe_getc (j := 0) d118_31 ky118 fl153 fk11_6 rfl ?_
        refine xe_getc (j := 0) d118_34 ky118 fl96 fk4_0 rfl ?_
        refine xs_aload_n d118_37 rfl ?_
        refine xe_getc (j := 0) d118_38 ky118 fl153 fk11_6 rfl ?_
        refine xe_getc (j := 0) d118_41 ky118 fl98 fk4_1 rfl ?_
        obtain ⟨h6, hc5, hf⟩ := lk_b hf
        refine xe_callv0 (as := [xr 8 (some 0), xr 6 (some 0)]) (st := []) (h2 := h6) (d2 := d - 1) d118_44 ky118 ml148 st43 (by decide) cn43 rfl na43 (Nat.le_of_ble_eq_true rfl) (by omega) (f_Sets_findGame_ok (by omega) hc5) ?_
        refine xs_iload_n d118_47 rfl ?_
        rcases lk_if hf with ⟨hc7, hf⟩ | ⟨hc7, hf⟩
        · refine xs_if_ne (tgt := 61) d118_48 (by decide) (fun _ => ?_) (fun hn => absurd hc7 hn)
          refine xs_aload_n d118_51 rfl ?_
          refine xe_getc (j := 0) d118_52 ky118 fl158 fk11_11 rfl ?_
          refine xe_geti d118_55 ky118 fl131 fk5_6 ?_
          refine xs_goto (tgt := 68) d118_58 (by decide) ?_
          obtain ⟨eR, eH⟩ := K0 _ _ (Option.some.inj hf).symm
          subst eR; subst eH
          exact xs_iret d118_68 rt118
        · refine xs_if_ne (tgt := 61) d118_48 (by decide) (fun hp => absurd hp hc7) (fun _ => ?_)
          refine xs_aload_n d118_61 rfl ?_
          refine xe_getc (j := 0) d118_62 ky118 fl158 fk11_11 rfl ?_
          refine xe_geti d118_65 ky118 fl133 fk5_7 ?_
          obtain ⟨eR, eH⟩ := K0 _ _ (Option.some.inj hf).symm
          subst eR; subst eH
          exact xs_iret d118_68 rt118
      · refine xs_icmp_le (tgt := 26) d118_19 (by decide) (fun hp => absurd hp hc3) (fun _ => ?_)
        refine xs_sipush (v := -1000) d118_22 (by decide) ?_
        obtain ⟨eR, eH⟩ := K0 _ _ (Option.some.inj hf).symm
        subst eR; subst eH
        exact xs_iret d118_25 rt118
noncomputable def f_B_game (v1 : Int32) (h : xH) : Option (Int32 × xH) := f_B_game_e v1 h
theorem f_B_game_ok {g : xG} {l : Launch} {d : Nat} {v1 : Int32} {h : xH} {r : Int32} {h1 : xH} (hD : 2 ≤ d) (hf : f_B_game v1 h = some (r, h1)) : xC g l d 118 [xr 11 (some 0), xi v1] h (some (xi r)) h1 :=
  xC_of2 (by decide) mx118 (Nat.le_of_ble_eq_true rfl) (f_B_game_e_ok hD hf (fun _ _ e => by cases e; exact ⟨rfl, rfl⟩))
theorem d134_0 : decode (xcode 134) 0 = .ok (.iload_n 1, 1) := by decide +kernel
theorem d134_1 : decode (xcode 134) 1 = .ok (.istore 4, 2) := by decide +kernel
theorem d134_3 : decode (xcode 134) 3 = .ok (.iconst 0, 1) := by decide +kernel
theorem d134_4 : decode (xcode 134) 4 = .ok (.istore 5, 2) := by decide +kernel
theorem d134_6 : decode (xcode 134) 6 = .ok (.iload_n 1, 1) := by decide +kernel
theorem d134_7 : decode (xcode 134) 7 = .ok (.aload_n 0, 1) := by decide +kernel
theorem d134_8 : decode (xcode 134) 8 = .ok (.getfield 55, 3) := by decide +kernel
theorem d134_11 : decode (xcode 134) 11 = .ok (.getfield 114, 3) := by decide +kernel
theorem d134_14 : decode (xcode 134) 14 = .ok (.getfield 154, 3) := by decide +kernel
theorem d134_17 : decode (xcode 134) 17 = .ok (.iload_n 2, 1) := by decide +kernel
theorem d134_18 : decode (xcode 134) 18 = .ok (.iaload, 1) := by decide +kernel
theorem d134_19 : decode (xcode 134) 19 = .ok (.imul, 1) := by decide +kernel
theorem d134_20 : decode (xcode 134) 20 = .ok (.iload_n 3, 1) := by decide +kernel
theorem d134_21 : decode (xcode 134) 21 = .ok (.irem, 1) := by decide +kernel
theorem d134_22 : decode (xcode 134) 22 = .ok (.istore 6, 2) := by decide +kernel
theorem d134_24 : decode (xcode 134) 24 = .ok (.iconst 0, 1) := by decide +kernel
theorem d134_25 : decode (xcode 134) 25 = .ok (.istore 7, 2) := by decide +kernel
theorem d134_27 : decode (xcode 134) 27 = .ok (.iload 7, 2) := by decide +kernel
theorem d134_29 : decode (xcode 134) 29 = .ok (.bipush 8, 2) := by decide +kernel
theorem d134_31 : decode (xcode 134) 31 = .ok (.if_icmp .ge 79, 3) := by decide +kernel
theorem d134_34 : decode (xcode 134) 34 = .ok (.aload_n 0, 1) := by decide +kernel
theorem d134_35 : decode (xcode 134) 35 = .ok (.getfield 55, 3) := by decide +kernel
theorem d134_38 : decode (xcode 134) 38 = .ok (.getfield 121, 3) := by decide +kernel
theorem d134_41 : decode (xcode 134) 41 = .ok (.iload 7, 2) := by decide +kernel
theorem d134_43 : decode (xcode 134) 43 = .ok (.invokevirtual 238, 3) := by decide +kernel
theorem d134_46 : decode (xcode 134) 46 = .ok (.ifCond .eq 58, 3) := by decide +kernel
theorem d134_49 : decode (xcode 134) 49 = .ok (.iload_n 1, 1) := by decide +kernel
theorem d134_50 : decode (xcode 134) 50 = .ok (.aload_n 0, 1) := by decide +kernel
theorem d134_51 : decode (xcode 134) 51 = .ok (.getfield 55, 3) := by decide +kernel
theorem d134_54 : decode (xcode 134) 54 = .ok (.getfield 114, 3) := by decide +kernel
theorem d134_57 : decode (xcode 134) 57 = .ok (.getfield 154, 3) := by decide +kernel
theorem d134_60 : decode (xcode 134) 60 = .ok (.iload 7, 2) := by decide +kernel
theorem d134_62 : decode (xcode 134) 62 = .ok (.iaload, 1) := by decide +kernel
theorem d134_63 : decode (xcode 134) 63 = .ok (.imul, 1) := by decide +kernel
theorem d134_64 : decode (xcode 134) 64 = .ok (.istore 8, 2) := by decide +kernel
theorem d134_66 : decode (xcode 134) 66 = .ok (.iload 4, 2) := by decide +kernel
theorem d134_68 : decode (xcode 134) 68 = .ok (.iload 8, 2) := by decide +kernel
theorem d134_70 : decode (xcode 134) 70 = .ok (.iload_n 3, 1) := by decide +kernel
theorem d134_71 : decode (xcode 134) 71 = .ok (.idiv, 1) := by decide +kernel
theorem d134_72 : decode (xcode 134) 72 = .ok (.isub, 1) := by decide +kernel
theorem d134_73 : decode (xcode 134) 73 = .ok (.istore 4, 2) := by decide +kernel
theorem d134_75 : decode (xcode 134) 75 = .ok (.iload 8, 2) := by decide +kernel
theorem d134_77 : decode (xcode 134) 77 = .ok (.iload_n 3, 1) := by decide +kernel
theorem d134_78 : decode (xcode 134) 78 = .ok (.irem, 1) := by decide +kernel
theorem d134_79 : decode (xcode 134) 79 = .ok (.istore 9, 2) := by decide +kernel
theorem d134_81 : decode (xcode 134) 81 = .ok (.iload 9, 2) := by decide +kernel
theorem d134_83 : decode (xcode 134) 83 = .ok (.iload 6, 2) := by decide +kernel
theorem d134_85 : decode (xcode 134) 85 = .ok (.if_icmp .gt 16, 3) := by decide +kernel
theorem d134_88 : decode (xcode 134) 88 = .ok (.iload 9, 2) := by decide +kernel
theorem d134_90 : decode (xcode 134) 90 = .ok (.iload 6, 2) := by decide +kernel
theorem d134_92 : decode (xcode 134) 92 = .ok (.if_icmp .ne 12, 3) := by decide +kernel
theorem d134_95 : decode (xcode 134) 95 = .ok (.iload 7, 2) := by decide +kernel
theorem d134_97 : decode (xcode 134) 97 = .ok (.iload_n 2, 1) := by decide +kernel
theorem d134_98 : decode (xcode 134) 98 = .ok (.if_icmp .ge 6, 3) := by decide +kernel
theorem d134_101 : decode (xcode 134) 101 = .ok (.iinc 5 1, 3) := by decide +kernel
theorem d134_104 : decode (xcode 134) 104 = .ok (.iinc 7 1, 3) := by decide +kernel
theorem d134_107 : decode (xcode 134) 107 = .ok (.goto (-80), 3) := by decide +kernel
theorem d134_110 : decode (xcode 134) 110 = .ok (.iload 5, 2) := by decide +kernel
theorem d134_112 : decode (xcode 134) 112 = .ok (.iload 4, 2) := by decide +kernel
theorem d134_114 : decode (xcode 134) 114 = .ok (.if_icmp .ge 7, 3) := by decide +kernel
theorem d134_117 : decode (xcode 134) 117 = .ok (.iconst 1, 1) := by decide +kernel
theorem d134_118 : decode (xcode 134) 118 = .ok (.goto 4, 3) := by decide +kernel
theorem d134_121 : decode (xcode 134) 121 = .ok (.iconst 0, 1) := by decide +kernel
theorem d134_122 : decode (xcode 134) 122 = .ok (.ireturn, 1) := by decide +kernel
noncomputable def f_B_penny_b110 (v4 : Int32) (v5 : Int32) (h : xH) : Option Int32 :=
  if v4 ≤ v5 then (
  some ((0 : Int32))) else (
  some ((1 : Int32)))
set_option maxHeartbeats 4000000 in
set_option maxRecDepth 100000 in
theorem f_B_penny_b110_ok {g : xG} {l : Launch} {d : Nat} {v4 : Int32} {v5 : Int32} {h : xH} {o : Int32} {R : Option xV} (hD : 1 ≤ d) (hf : f_B_penny_b110 v4 v5 h = some o) (K0 : ∀ (a : Int32), o = a → R = some (xi a)) : xEv g l d 134 110 [(4, xi v4), (5, xi v5)] [] h R h := by
  unfold f_B_penny_b110 at hf
  refine xs_iload d134_110 rfl ?_
  refine xs_iload d134_112 rfl ?_
  rcases lk_if hf with ⟨hc5, hf⟩ | ⟨hc5, hf⟩
  · refine xs_icmp_ge (tgt := 121) d134_114 (by decide) (fun _ => ?_) (fun hn => absurd hc5 hn)
    refine xs_iconst (v := 0) d134_121 (by decide) ?_
    obtain eR := K0 _ (Option.some.inj hf).symm
    subst eR
    exact xs_iret d134_122 rt134
  · refine xs_icmp_ge (tgt := 121) d134_114 (by decide) (fun hp => absurd hp hc5) (fun _ => ?_)
    refine xs_iconst (v := 1) d134_117 (by decide) ?_
    refine xs_goto (tgt := 122) d134_118 (by decide) ?_
    obtain eR := K0 _ (Option.some.inj hf).symm
    subst eR
    exact xs_iret d134_122 rt134
noncomputable def f_B_penny_b104 (v1 : Int32) (v2 : Int32) (v3 : Int32) (v4 : Int32) (v5 : Int32) (v6 : Int32) (v7 : Int32) (h : xH) : Option ((Int32 × Int32 × Int32) ⊕ Int32) :=
  xlet (v7 + (1 : Int32)) fun v7_9 =>
  some (Sum.inl (v4, v5, v7_9))
set_option maxHeartbeats 4000000 in
set_option maxRecDepth 100000 in
theorem f_B_penny_b104_ok {g : xG} {l : Launch} {d : Nat} {v1 : Int32} {v2 : Int32} {v3 : Int32} {v4 : Int32} {v5 : Int32} {v6 : Int32} {v7 : Int32} {h : xH} {o : ((Int32 × Int32 × Int32) ⊕ Int32)} {R : Option xV} (hD : 1 ≤ d) (hf : f_B_penny_b104 v1 v2 v3 v4 v5 v6 v7 h = some o) (K1 : ∀ (w4 : Int32) (w5 : Int32) (w7 : Int32), o = Sum.inl (w4, w5, w7) → xEv g l d 134 27 [(0, xr 11 (some 0)), (1, xi v1), (2, xi v2), (3, xi v3), (4, xi w4), (5, xi w5), (6, xi v6), (7, xi w7)] [] h R h) (K0 : ∀ (a : Int32), o = Sum.inr (a) → R = some (xi a)) : xEv g l d 134 104 [(0, xr 11 (some 0)), (1, xi v1), (2, xi v2), (3, xi v3), (4, xi v4), (5, xi v5), (6, xi v6), (7, xi v7)] [] h R h := by
  unfold f_B_penny_b104 at hf
  obtain ⟨v7_9, ev7_9, hf⟩ := lk_let hf
  refine xe_iinc (v := v7_9) (b := 1) (ls2 := [(0, xr 11 (some 0)), (1, xi v1), (2, xi v2), (3, xi v3), (4, xi v4), (5, xi v5), (6, xi v6), (7, xi v7_9)]) d134_104 mx134 (by decide) rfl (by decide) ev7_9 rfl ?_
  refine xs_goto (tgt := 27) d134_107 (by decide) ?_
  exact K1 _ _ _ (Option.some.inj hf).symm
noncomputable def f_B_penny_b101 (v1 : Int32) (v2 : Int32) (v3 : Int32) (v4 : Int32) (v5 : Int32) (v6 : Int32) (v7 : Int32) (h : xH) : Option ((Int32 × Int32 × Int32) ⊕ Int32) :=
  xlet (v5 + (1 : Int32)) fun v5_17 =>
  f_B_penny_b104 v1 v2 v3 v4 v5_17 v6 v7 h
set_option maxHeartbeats 4000000 in
set_option maxRecDepth 100000 in
theorem f_B_penny_b101_ok {g : xG} {l : Launch} {d : Nat} {v1 : Int32} {v2 : Int32} {v3 : Int32} {v4 : Int32} {v5 : Int32} {v6 : Int32} {v7 : Int32} {h : xH} {o : ((Int32 × Int32 × Int32) ⊕ Int32)} {R : Option xV} (hD : 1 ≤ d) (hf : f_B_penny_b101 v1 v2 v3 v4 v5 v6 v7 h = some o) (K1 : ∀ (w4 : Int32) (w5 : Int32) (w7 : Int32), o = Sum.inl (w4, w5, w7) → xEv g l d 134 27 [(0, xr 11 (some 0)), (1, xi v1), (2, xi v2), (3, xi v3), (4, xi w4), (5, xi w5), (6, xi v6), (7, xi w7)] [] h R h) (K0 : ∀ (a : Int32), o = Sum.inr (a) → R = some (xi a)) : xEv g l d 134 101 [(0, xr 11 (some 0)), (1, xi v1), (2, xi v2), (3, xi v3), (4, xi v4), (5, xi v5), (6, xi v6), (7, xi v7)] [] h R h := by
  unfold f_B_penny_b101 at hf
  obtain ⟨v5_17, ev5_17, hf⟩ := lk_let hf
  refine xe_iinc (v := v5_17) (b := 1) (ls2 := [(0, xr 11 (some 0)), (1, xi v1), (2, xi v2), (3, xi v3), (4, xi v4), (5, xi v5_17), (6, xi v6), (7, xi v7)]) d134_101 mx134 (by decide) rfl (by decide) ev5_17 rfl ?_
  exact f_B_penny_b104_ok hD hf K1 K0
noncomputable def f_B_penny_s27 (v1 : Int32) (v2 : Int32) (v3 : Int32) (v4 : Int32) (v5 : Int32) (v6 : Int32) (v7 : Int32) (h : xH) : Option ((Int32 × Int32 × Int32) ⊕ Int32) :=
  if (8 : Int32) ≤ v7 then (
  xup (f_B_penny_b110 v4 v5 h)) else (
  (f_State_isLetBe 0 v7 h).bind fun r6 =>
  if r6 = (0 : Int32) then (
  f_B_penny_b104 v1 v2 v3 v4 v5 v6 v7 h) else (
  if xib v7 8 then (
  xlet (v1 * (h.2.2.2.1 39 0 (v7).toNatClampNeg)) fun v8_11 =>
  if ¬ v3 = 0 then (
  xlet (v4 - (v8_11 / v3)) fun v4_13 =>
  if ¬ v3 = 0 then (
  xlet (v8_11 - v8_11 / v3 * v3) fun v9_15 =>
  if v6 < v9_15 then (
  f_B_penny_b101 v1 v2 v3 v4_13 v5 v6 v7 h) else (
  if v9_15 = v6 then (
  if v2 ≤ v7 then (
  f_B_penny_b104 v1 v2 v3 v4_13 v5 v6 v7 h) else (
  f_B_penny_b101 v1 v2 v3 v4_13 v5 v6 v7 h)) else (
  f_B_penny_b104 v1 v2 v3 v4_13 v5 v6 v7 h))) else none) else none) else none))
set_option maxHeartbeats 4000000 in
set_option maxRecDepth 100000 in
theorem f_B_penny_s27_ok {g : xG} {l : Launch} {d : Nat} {v1 : Int32} {v2 : Int32} {v3 : Int32} {v4 : Int32} {v5 : Int32} {v6 : Int32} {v7 : Int32} {h : xH} {o : ((Int32 × Int32 × Int32) ⊕ Int32)} {R : Option xV} (hD : 1 ≤ d) (hf : f_B_penny_s27 v1 v2 v3 v4 v5 v6 v7 h = some o) (K1 : ∀ (w4 : Int32) (w5 : Int32) (w7 : Int32), o = Sum.inl (w4, w5, w7) → xEv g l d 134 27 [(0, xr 11 (some 0)), (1, xi v1), (2, xi v2), (3, xi v3), (4, xi w4), (5, xi w5), (6, xi v6), (7, xi w7)] [] h R h) (K0 : ∀ (a : Int32), o = Sum.inr (a) → R = some (xi a)) : xEv g l d 134 27 [(0, xr 11 (some 0)), (1, xi v1), (2, xi v2), (3, xi v3), (4, xi v4), (5, xi v5), (6, xi v6), (7, xi v7)] [] h R h := by
  unfold f_B_penny_s27 at hf
  refine xs_iload d134_27 rfl ?_
  refine xs_bipush (v := 8) d134_29 (by decide) ?_
  rcases lk_if hf with ⟨hc4, hf⟩ | ⟨hc4, hf⟩
  · refine xs_icmp_ge (tgt := 110) d134_31 (by decide) (fun _ => ?_) (fun hn => absurd hc4 hn)
    refine xs_pick [4, 5] rfl ?_
    obtain ⟨x0, hf, ex0⟩ := lk_up hf
    exact f_B_penny_b110_ok hD hf (fun u0 e => K0 u0 (ex0.trans (congrArg Sum.inr e)))
  · refine xs_icmp_ge (tgt := 110) d134_31 (by decide) (fun hp => absurd hp hc4) (fun _ => ?_)
    refine xs_aload_n d134_34 rfl ?_
    refine xe_getc (j := 0) d134_35 ky134 fl153 fk11_6 rfl ?_
    refine xe_getc (j := 0) d134_38 ky134 fl98 fk4_1 rfl ?_
    refine xs_iload d134_41 rfl ?_
    obtain ⟨r6, hc7, hf⟩ := lk_b hf
    refine xe_callv1 (as := [xi v7]) (st := []) (h2 := h) (d2 := d - 1) d134_43 ky134 ml108 st48 (by decide) cn48 rfl na48 (Nat.le_of_ble_eq_true rfl) (by omega) (f_State_isLetBe_ok (by omega) hc7) ?_
    rcases lk_if hf with ⟨hc8, hf⟩ | ⟨hc8, hf⟩
    · refine xs_if_eq (tgt := 104) d134_46 (by decide) (fun _ => ?_) (fun hn => absurd hc8 hn)
      exact f_B_penny_b104_ok hD hf K1 K0
    · refine xs_if_eq (tgt := 104) d134_46 (by decide) (fun hp => absurd hp hc8) (fun _ => ?_)
      refine xs_iload_n d134_49 rfl ?_
      refine xs_aload_n d134_50 rfl ?_
      refine xe_getc (j := 0) d134_51 ky134 fl153 fk11_6 rfl ?_
      refine xe_getc (j := 0) d134_54 ky134 fl96 fk4_0 rfl ?_
      refine xe_getc (j := 0) d134_57 ky134 fl46 fk8_7 rfl ?_
      refine xs_iload d134_60 rfl ?_
      obtain ⟨hin10, hf⟩ := lk_g hf
      refine xe_iald d134_62 (by decide) ak39 hin10 ?_
      refine xs_imul d134_63 ?_
      obtain ⟨v8_11, ev8_11, hf⟩ := lk_let hf
      refine xe_istore (v := v8_11) (ls2 := [(0, xr 11 (some 0)), (1, xi v1), (2, xi v2), (3, xi v3), (4, xi v4), (5, xi v5), (6, xi v6), (7, xi v7), (8, xi v8_11)]) d134_64 mx134 (by decide) ev8_11 rfl ?_
      refine xs_iload d134_66 rfl ?_
      refine xs_iload d134_68 rfl ?_
      refine xs_iload_n d134_70 rfl ?_
      obtain ⟨hb12, hf⟩ := lk_g hf
      refine xs_idiv d134_71 hb12 ?_
      refine xs_isub d134_72 ?_
      obtain ⟨v4_13, ev4_13, hf⟩ := lk_let hf
      refine xe_istore (v := v4_13) (ls2 := [(0, xr 11 (some 0)), (1, xi v1), (2, xi v2), (3, xi v3), (4, xi v4_13), (5, xi v5), (6, xi v6), (7, xi v7), (8, xi v8_11)]) d134_73 mx134 (by decide) ev4_13 rfl ?_
      refine xs_iload d134_75 rfl ?_
      refine xs_iload_n d134_77 rfl ?_
      obtain ⟨hb14, hf⟩ := lk_g hf
      refine xs_irem d134_78 hb14 ?_
      obtain ⟨v9_15, ev9_15, hf⟩ := lk_let hf
      refine xe_istore (v := v9_15) (ls2 := [(0, xr 11 (some 0)), (1, xi v1), (2, xi v2), (3, xi v3), (4, xi v4_13), (5, xi v5), (6, xi v6), (7, xi v7), (8, xi v8_11), (9, xi v9_15)]) d134_79 mx134 (by decide) ev9_15 rfl ?_
      refine xs_iload d134_81 rfl ?_
      refine xs_iload d134_83 rfl ?_
      rcases lk_if hf with ⟨hc16, hf⟩ | ⟨hc16, hf⟩
      · refine xs_icmp_gt (tgt := 101) d134_85 (by decide) (fun _ => ?_) (fun hn => absurd hc16 hn)
        refine xs_pick [0, 1, 2, 3, 4, 5, 6, 7] rfl ?_
        exact f_B_penny_b101_ok hD hf K1 K0
      · refine xs_icmp_gt (tgt := 101) d134_85 (by decide) (fun hp => absurd hp hc16) (fun _ => ?_)
        refine xs_iload d134_88 rfl ?_
        refine xs_iload d134_90 rfl ?_
        rcases lk_if hf with ⟨hc18, hf⟩ | ⟨hc18, hf⟩
        · refine xs_icmp_ne (tgt := 104) d134_92 (by decide) (fun _ => ?_) (fun hn => absurd hc18 hn)
          refine xs_iload d134_95 rfl ?_
          refine xs_iload_n d134_97 rfl ?_
          rcases lk_if hf with ⟨hc19, hf⟩ | ⟨hc19, hf⟩
          · refine xs_icmp_ge (tgt := 104) d134_98 (by decide) (fun _ => ?_) (fun hn => absurd hc19 hn)
            refine xs_pick [0, 1, 2, 3, 4, 5, 6, 7] rfl ?_
            exact f_B_penny_b104_ok hD hf K1 K0
          · refine xs_icmp_ge (tgt := 104) d134_98 (by decide) (fun hp => absurd hp hc19) (fun _ => ?_)
            refine xs_pick [0, 1, 2, 3, 4, 5, 6, 7] rfl ?_
            exact f_B_penny_b101_ok hD hf K1 K0
        · refine xs_icmp_ne (tgt := 104) d134_92 (by decide) (fun hp => absurd hp hc18) (fun _ => ?_)
          refine xs_pick [0, 1, 2, 3, 4, 5, 6, 7] rfl ?_
          exact f_B_penny_b104_ok hD hf K1 K0
noncomputable def f_B_penny_l27 (v1 : Int32) (v2 : Int32) (v3 : Int32) (v4 : Int32) (v5 : Int32) (v6 : Int32) (v7 : Int32) (h : xH) : Option Int32 :=
  whl (fun s => f_B_penny_s27 v1 v2 v3 s.1 s.2.1 v6 s.2.2 h) (v4, v5, v7)
theorem f_B_penny_l27_ok {g : xG} {l : Launch} {d : Nat} {v1 : Int32} {v2 : Int32} {v3 : Int32} {v4 : Int32} {v5 : Int32} {v6 : Int32} {v7 : Int32} {h : xH} {o : Int32} {R : Option xV} (hD : 1 ≤ d) (hf : f_B_penny_l27 v1 v2 v3 v4 v5 v6 v7 h = some o) (K0 : ∀ (a : Int32), o = a → R = some (xi a)) : xEv g l d 134 27 [(0, xr 11 (some 0)), (1, xi v1), (2, xi v2), (3, xi v3), (4, xi v4), (5, xi v5), (6, xi v6), (7, xi v7)] [] h R h := by
  obtain ⟨n, hn⟩ := whl_iff.mp hf
  clear hf
  induction n generalizing v4 v5 v7 with
  | zero => cases hn
  | succ n ih =>
    obtain ⟨o2, hs, hn⟩ := lk_b (show (f_B_penny_s27 v1 v2 v3 v4 v5 v6 v7 h).bind (fun o => Sum.elim (itn _ n) some o) = some o from hn)
    exact f_B_penny_s27_ok hD hs (fun u0 u1 u2 e => ih (by rw [e] at hn; exact hn)) (fun u0 e => K0 u0 (by rw [e] at hn; exact (Option.some.inj hn).symm))
noncomputable def f_B_penny_e (v1 : Int32) (v2 : Int32) (v3 : Int32) (h : xH) : Option Int32 :=
  if xib v2 8 then (
  if ¬ v3 = 0 then (
  xlet ((v1 * (h.2.2.2.1 39 0 (v2).toNatClampNeg)) - (v1 * (h.2.2.2.1 39 0 (v2).toNatClampNeg)) / v3 * v3) fun v6_3 =>
  f_B_penny_l27 v1 v2 v3 v1 (0 : Int32) v6_3 (0 : Int32) h) else none) else none
set_option maxHeartbeats 4000000 in
set_option maxRecDepth 100000 in
theorem f_B_penny_e_ok {g : xG} {l : Launch} {d : Nat} {v1 : Int32} {v2 : Int32} {v3 : Int32} {h : xH} {o : Int32} {R : Option xV} (hD : 1 ≤ d) (hf : f_B_penny_e v1 v2 v3 h = some o) (K0 : ∀ (a : Int32), o = a → R = some (xi a)) : xEv g l d 134 0 [(0, xr 11 (some 0)), (1, xi v1), (2, xi v2), (3, xi v3)] [] h R h := by
  unfold f_B_penny_e at hf
  refine xs_iload_n d134_0 rfl ?_
  refine xe_istore (v := v1) (ls2 := [(0, xr 11 (some 0)), (1, xi v1), (2, xi v2), (3, xi v3), (4, xi v1)]) d134_1 mx134 (by decide) rfl rfl ?_
  refine xs_iconst (v := 0) d134_3 (by decide) ?_
  refine xe_istore (v := (0 : Int32)) (ls2 := [(0, xr 11 (some 0)), (1, xi v1), (2, xi v2), (3, xi v3), (4, xi v1), (5, xi (0 : Int32))]) d134_4 mx134 (by decide) rfl rfl ?_
  refine xs_iload_n d134_6 rfl ?_
  refine xs_aload_n d134_7 rfl ?_
  refine xe_getc (j := 0) d134_8 ky134 fl153 fk11_6 rfl ?_
  refine xe_getc (j := 0) d134_11 ky134 fl96 fk4_0 rfl ?_
  refine xe_getc (j := 0) d134_14 ky134 fl46 fk8_7 rfl ?_
  refine xs_iload_n d134_17 rfl ?_
  obtain ⟨hin1, hf⟩ := lk_g hf
  refine xe_iald d134_18 (by decide) ak39 hin1 ?_
  refine xs_imul d134_19 ?_
  refine xs_iload_n d134_20 rfl ?_
  obtain ⟨hb2, hf⟩ := lk_g hf
  refine xs_irem d134_21 hb2 ?_
  obtain ⟨v6_3, ev6_3, hf⟩ := lk_let hf
  refine xe_istore (v := v6_3) (ls2 := [(0, xr 11 (some 0)), (1, xi v1), (2, xi v2), (3, xi v3), (4, xi v1), (5, xi (0 : Int32)), (6, xi v6_3)]) d134_22 mx134 (by decide) ev6_3 rfl ?_
  refine xs_iconst (v := 0) d134_24 (by decide) ?_
  refine xe_istore (v := (0 : Int32)) (ls2 := [(0, xr 11 (some 0)), (1, xi v1), (2, xi v2), (3, xi v3), (4, xi v1), (5, xi (0 : Int32)), (6, xi v6_3), (7, xi (0 : Int32))]) d134_25 mx134 (by decide) rfl rfl ?_
  exact f_B_penny_l27_ok hD hf K0
noncomputable def f_B_penny (v1 : Int32) (v2 : Int32) (v3 : Int32) (h : xH) : Option Int32 := f_B_penny_e v1 v2 v3 h
theorem f_B_penny_ok {g : xG} {l : Launch} {d : Nat} {v1 : Int32} {v2 : Int32} {v3 : Int32} {h : xH} {r : Int32} (hD : 1 ≤ d) (hf : f_B_penny v1 v2 v3 h = some r) : xC g l d 134 [xr 11 (some 0), xi v1, xi v2, xi v3] h (some (xi r)) h :=
  xC_of2 (by decide) mx134 (Nat.le_of_ble_eq_true rfl) (f_B_penny_e_ok hD hf (fun _ e => by rw [e]))
theorem d119_0 : decode (xcode 119) 0 = .ok (.iload_n 1, 1) := by decide +kernel
theorem d119_1 : decode (xcode 119) 1 = .ok (.ifCond .lt 24, 3) := by decide +kernel
theorem d119_4 : decode (xcode 119) 4 = .ok (.iload_n 1, 1) := by decide +kernel
theorem d119_5 : decode (xcode 119) 5 = .ok (.sipush 9999, 3) := by decide +kernel
theorem d119_8 : decode (xcode 119) 8 = .ok (.if_icmp .gt 17, 3) := by decide +kernel
theorem d119_11 : decode (xcode 119) 11 = .ok (.aload_n 0, 1) := by decide +kernel
theorem d119_12 : decode (xcode 119) 12 = .ok (.getfield 55, 3) := by decide +kernel
theorem d119_15 : decode (xcode 119) 15 = .ok (.getfield 114, 3) := by decide +kernel
theorem d119_18 : decode (xcode 119) 18 = .ok (.iload_n 2, 1) := by decide +kernel
theorem d119_19 : decode (xcode 119) 19 = .ok (.invokevirtual 145, 3) := by decide +kernel
theorem d119_22 : decode (xcode 119) 22 = .ok (.ifCond .ne 5, 3) := by decide +kernel
theorem d119_25 : decode (xcode 119) 25 = .ok (.iconst (-1), 1) := by decide +kernel
theorem d119_26 : decode (xcode 119) 26 = .ok (.ireturn, 1) := by decide +kernel
theorem d119_27 : decode (xcode 119) 27 = .ok (.aload_n 0, 1) := by decide +kernel
theorem d119_28 : decode (xcode 119) 28 = .ok (.getfield 55, 3) := by decide +kernel
theorem d119_31 : decode (xcode 119) 31 = .ok (.getfield 114, 3) := by decide +kernel
theorem d119_34 : decode (xcode 119) 34 = .ok (.aload_n 0, 1) := by decide +kernel
theorem d119_35 : decode (xcode 119) 35 = .ok (.getfield 55, 3) := by decide +kernel
theorem d119_38 : decode (xcode 119) 38 = .ok (.getfield 121, 3) := by decide +kernel
theorem d119_41 : decode (xcode 119) 41 = .ok (.getfield 218, 3) := by decide +kernel
theorem d119_44 : decode (xcode 119) 44 = .ok (.invokevirtual 221, 3) := by decide +kernel
theorem d119_47 : decode (xcode 119) 47 = .ok (.istore_n 3, 1) := by decide +kernel
theorem d119_48 : decode (xcode 119) 48 = .ok (.iload_n 3, 1) := by decide +kernel
theorem d119_49 : decode (xcode 119) 49 = .ok (.ifCond .eq 17, 3) := by decide +kernel
theorem d119_52 : decode (xcode 119) 52 = .ok (.aload_n 0, 1) := by decide +kernel
theorem d119_53 : decode (xcode 119) 53 = .ok (.getfield 55, 3) := by decide +kernel
theorem d119_56 : decode (xcode 119) 56 = .ok (.getfield 121, 3) := by decide +kernel
theorem d119_59 : decode (xcode 119) 59 = .ok (.iload_n 2, 1) := by decide +kernel
theorem d119_60 : decode (xcode 119) 60 = .ok (.invokevirtual 238, 3) := by decide +kernel
theorem d119_63 : decode (xcode 119) 63 = .ok (.ifCond .ne 5, 3) := by decide +kernel
theorem d119_66 : decode (xcode 119) 66 = .ok (.iconst 0, 1) := by decide +kernel
theorem d119_67 : decode (xcode 119) 67 = .ok (.ireturn, 1) := by decide +kernel
theorem d119_68 : decode (xcode 119) 68 = .ok (.iload_n 1, 1) := by decide +kernel
theorem d119_69 : decode (xcode 119) 69 = .ok (.aload_n 0, 1) := by decide +kernel
theorem d119_70 : decode (xcode 119) 70 = .ok (.getfield 55, 3) := by decide +kernel
theorem d119_73 : decode (xcode 119) 73 = .ok (.getfield 114, 3) := by decide +kernel
theorem d119_76 : decode (xcode 119) 76 = .ok (.getfield 154, 3) := by decide +kernel
theorem d119_79 : decode (xcode 119) 79 = .ok (.iload_n 2, 1) := by decide +kernel
theorem d119_80 : decode (xcode 119) 80 = .ok (.iaload, 1) := by decide +kernel
theorem d119_81 : decode (xcode 119) 81 = .ok (.imul, 1) := by decide +kernel
theorem d119_82 : decode (xcode 119) 82 = .ok (.iload_n 3, 1) := by decide +kernel
theorem d119_83 : decode (xcode 119) 83 = .ok (.idiv, 1) := by decide +kernel
theorem d119_84 : decode (xcode 119) 84 = .ok (.aload_n 0, 1) := by decide +kernel
theorem d119_85 : decode (xcode 119) 85 = .ok (.iload_n 1, 1) := by decide +kernel
theorem d119_86 : decode (xcode 119) 86 = .ok (.iload_n 2, 1) := by decide +kernel
theorem d119_87 : decode (xcode 119) 87 = .ok (.iload_n 3, 1) := by decide +kernel
theorem d119_88 : decode (xcode 119) 88 = .ok (.invokevirtual 306, 3) := by decide +kernel
theorem d119_91 : decode (xcode 119) 91 = .ok (.iadd, 1) := by decide +kernel
theorem d119_92 : decode (xcode 119) 92 = .ok (.ireturn, 1) := by decide +kernel
noncomputable def f_B_pence_e (v1 : Int32) (v2 : Int32) (h : xH) : Option Int32 :=
  if v1 < (0 : Int32) then (
  some ((-1 : Int32))) else (
  if (9999 : Int32) < v1 then (
  some ((-1 : Int32))) else (
  (f_Told_hasSorrow 0 v2 h).bind fun r3 =>
  if r3 = (0 : Int32) then (
  some ((-1 : Int32))) else (
  (f_Told_deepOf 0 (h.1 6 3 0) h).bind fun r6 =>
  if r6 = (0 : Int32) then (
  some ((0 : Int32))) else (
  (f_State_isLetBe 0 v2 h).bind fun r9 =>
  if r9 = (0 : Int32) then (
  some ((0 : Int32))) else (
  if xib v2 8 then (
  if ¬ r6 = 0 then (
  (f_B_penny v1 v2 r6 h).bind fun r14 =>
  some (((v1 * (h.2.2.2.1 39 0 (v2).toNatClampNeg)) / r6) + r14)) else none) else none)))))
set_option maxHeartbeats 4000000 in
set_option maxRecDepth 100000 in
theorem f_B_pence_e_ok {g : xG} {l : Launch} {d : Nat} {v1 : Int32} {v2 : Int32} {h : xH} {o : Int32} {R : Option xV} (hD : 2 ≤ d) (hf : f_B_pence_e v1 v2 h = some o) (K0 : ∀ (a : Int32), o = a → R = some (xi a)) : xEv g l d 119 0 [(0, xr 11 (some 0)), (1, xi v1), (2, xi v2)] [] h R h := by
  unfold f_B_pence_e at hf
  refine xs_iload_n d119_0 rfl ?_
  rcases lk_if hf with ⟨hc1, hf⟩ | ⟨hc1, hf⟩
  · refine xs_if_lt (tgt := 25) d119_1 (by decide) (fun _ => ?_) (fun hn => absurd hc1 hn)
    refine xs_iconst (v := -1) d119_25 (by decide) ?_
    obtain eR := K0 _ (Option.some.inj hf).symm
    subst eR
    exact xs_iret d119_26 rt119
  · refine xs_if_lt (tgt := 25) d119_1 (by decide) (fun hp => absurd hp hc1) (fun _ => ?_)
    refine xs_iload_n d119_4 rfl ?_
    refine xs_sipush (v := 9999) d119_5 (by decide) ?_
    rcases lk_if hf with ⟨hc2, hf⟩ | ⟨hc2, hf⟩
    · refine xs_icmp_gt (tgt := 25) d119_8 (by decide) (fun _ => ?_) (fun hn => absurd hc2 hn)
      refine xs_iconst (v := -1) d119_25 (by decide) ?_
      obtain eR := K0 _ (Option.some.inj hf).symm
      subst eR
      exact xs_iret d119_26 rt119
    · refine xs_icmp_gt (tgt := 25) d119_8 (by decide) (fun hp => absurd hp hc2) (fun _ => ?_)
      refine xs_aload_n d119_11 rfl ?_
      refine xe_getc (j := 0) d119_12 ky119 fl153 fk11_6 rfl ?_
      refine xe_getc (j := 0) d119_15 ky119 fl96 fk4_0 rfl ?_
      refine xs_iload_n d119_18 rfl ?_
      obtain ⟨r3, hc4, hf⟩ := lk_b hf
      refine xe_callv1 (as := [xi v2]) (st := []) (h2 := h) (d2 := d - 1) d119_19 ky119 ml58 st76 (by decide) cn76 rfl na76 (Nat.le_of_ble_eq_true rfl) (by omega) (f_Told_hasSorrow_ok (by omega) hc4) ?_
      rcases lk_if hf with ⟨hc5, hf⟩ | ⟨hc5, hf⟩
      · refine xs_if_ne (tgt := 27) d119_22 (by decide) (fun _ => ?_) (fun hn => absurd hc5 hn)
        refine xs_iconst (v := -1) d119_25 (by decide) ?_
        obtain eR := K0 _ (Option.some.inj hf).symm
        subst eR
        exact xs_iret d119_26 rt119
      · refine xs_if_ne (tgt := 27) d119_22 (by decide) (fun hp => absurd hp hc5) (fun _ => ?_)
        refine xs_aload_n d119_27 rfl ?_
        refine xe_getc (j := 0) d119_28 ky119 fl153 fk11_6 rfl ?_
        refine xe_getc (j := 0) d119_31 ky119 fl96 fk4_0 rfl ?_
        refine xs_aload_n d119_34 rfl ?_
        refine xe_getc (j := 0) d119_35 ky119 fl153 fk11_6 rfl ?_
        refine xe_getc (j := 0) d119_38 ky119 fl98 fk4_1 rfl ?_
        refine xe_geti d119_41 ky119 fl81 fk6_3 ?_
        obtain ⟨r6, hc7, hf⟩ := lk_b hf
        refine xe_callv1 (as := [xi (h.1 6 3 0)]) (st := []) (h2 := h) (d2 := d - 1) d119_44 ky119 ml103 st77 (by decide) cn77 rfl na77 (Nat.le_of_ble_eq_true rfl) (by omega) (f_Told_deepOf_ok (by omega) hc7) ?_
        refine xe_istore_n (v := r6) (ls2 := [(0, xr 11 (some 0)), (1, xi v1), (2, xi v2), (3, xi r6)]) d119_47 mx119 (by decide) rfl rfl ?_
        refine xs_iload_n d119_48 rfl ?_
        rcases lk_if hf with ⟨hc8, hf⟩ | ⟨hc8, hf⟩
        · refine xs_if_eq (tgt := 66) d119_49 (by decide) (fun _ => ?_) (fun hn => absurd hc8 hn)
          refine xs_iconst (v := 0) d119_66 (by decide) ?_
          obtain eR := K0 _ (Option.some.inj hf).symm
          subst eR
          exact xs_iret d119_67 rt119
        · refine xs_if_eq (tgt := 66) d119_49 (by decide) (fun hp => absurd hp hc8) (fun _ => ?_)
          refine xs_aload_n d119_52 rfl ?_
          refine xe_getc (j := 0) d119_53 ky119 fl153 fk11_6 rfl ?_
          refine xe_getc (j := 0) d119_56 ky119 fl98 fk4_1 rfl ?_
          refine xs_iload_n d119_59 rfl ?_
          obtain ⟨r9, hc10, hf⟩ := lk_b hf
          refine xe_callv1 (as := [xi v2]) (st := []) (h2 := h) (d2 := d - 1) d119_60 ky119 ml108 st48 (by decide) cn48 rfl na48 (Nat.le_of_ble_eq_true rfl) (by omega) (f_State_isLetBe_ok (by omega) hc10) ?_
          rcases lk_if hf with ⟨hc11, hf⟩ | ⟨hc11, hf⟩
          · refine xs_if_ne (tgt := 68) d119_63 (by decide) (fun _ => ?_) (fun hn => absurd hc11 hn)
            refine xs_iconst (v := 0) d119_66 (by decide) ?_
            obtain eR := K0 _ (Option.some.inj hf).symm
            subst eR
            exact xs_iret d119_67 rt119
          · refine xs_if_ne (tgt := 68) d119_63 (by decide) (fun hp => absurd hp hc11) (fun _ => ?_)
            refine xs_iload_n d119_68 rfl ?_
            refine xs_aload_n d119_69 rfl ?_
            refine xe_getc (j := 0) d119_70 ky119 fl153 fk11_6 rfl ?_
            refine xe_getc (j := 0) d119_73 ky119 fl96 fk4_0 rfl ?_
            refine xe_getc (j := 0) d119_76 ky119 fl46 fk8_7 rfl ?_
            refine xs_iload_n d119_79 rfl ?_
            obtain ⟨hin12, hf⟩ := lk_g hf
            refine xe_iald d119_80 (by decide) ak39 hin12 ?_
            refine xs_imul d119_81 ?_
            refine xs_iload_n d119_82 rfl ?_
            obtain ⟨hb13, hf⟩ := lk_g hf
            refine xs_idiv d119_83 hb13 ?_
            refine xs_aload_n d119_84 rfl ?_
            refine xs_iload_n d119_85 rfl ?_
            refine xs_iload_n d119_86 rfl ?_
            refine xs_iload_n d119_87 rfl ?_
            obtain ⟨r14, hc15, hf⟩ := lk_b hf
            refine xe_callv1 (as := [xi v1, xi v2, xi r6]) (st := [xi ((v1 * (h.2.2.2.1 39 0 (v2).toNatClampNeg)) / r6)]) (h2 := h) (d2 := d - 1) d119_88 ky119 ml151 st134 (by decide) cn134 rfl na134 (Nat.le_of_ble_eq_true rfl) (by omega) (f_B_penny_ok (by omega) hc15) ?_
            refine xs_iadd d119_91 ?_
            obtain eR := K0 _ (Option.some.inj hf).symm
            subst eR
            exact xs_iret d119_92 rt119
noncomputable def f_B_pence (v1 : Int32) (v2 : Int32) (h : xH) : Option Int32 := f_B_pence_e v1 v2 h
theorem f_B_pence_ok {g : xG} {l : Launch} {d : Nat} {v1 : Int32} {v2 : Int32} {h : xH} {r : Int32} (hD : 2 ≤ d) (hf : f_B_pence v1 v2 h = some r) : xC g l d 119 [xr 11 (some 0), xi v1, xi v2] h (some (xi r)) h :=
  xC_of2 (by decide) mx119 (Nat.le_of_ble_eq_true rfl) (f_B_pence_e_ok hD hf (fun _ e => by rw [e]))
theorem d120_0 : decode (xcode 120) 0 = .ok (.iload_n 1, 1) := by decide +kernel
theorem d120_1 : decode (xcode 120) 1 = .ok (.iconst (-1), 1) := by decide +kernel
theorem d120_2 : decode (xcode 120) 2 = .ok (.if_icmp .ne 13, 3) := by decide +kernel
theorem d120_5 : decode (xcode 120) 5 = .ok (.aload_n 0, 1) := by decide +kernel
theorem d120_6 : decode (xcode 120) 6 = .ok (.getfield 55, 3) := by decide +kernel
theorem d120_9 : decode (xcode 120) 9 = .ok (.iconst 0, 1) := by decide +kernel
theorem d120_10 : decode (xcode 120) 10 = .ok (.putfield 130, 3) := by decide +kernel
theorem d120_13 : decode (xcode 120) 13 = .ok (.iconst 0, 1) := by decide +kernel
theorem d120_14 : decode (xcode 120) 14 = .ok (.ireturn, 1) := by decide +kernel
theorem d120_15 : decode (xcode 120) 15 = .ok (.aload_n 0, 1) := by decide +kernel
theorem d120_16 : decode (xcode 120) 16 = .ok (.getfield 55, 3) := by decide +kernel
theorem d120_19 : decode (xcode 120) 19 = .ok (.getfield 114, 3) := by decide +kernel
theorem d120_22 : decode (xcode 120) 22 = .ok (.getfield 173, 3) := by decide +kernel
theorem d120_25 : decode (xcode 120) 25 = .ok (.ifCond .eq 25, 3) := by decide +kernel
theorem d120_28 : decode (xcode 120) 28 = .ok (.iload_n 1, 1) := by decide +kernel
theorem d120_29 : decode (xcode 120) 29 = .ok (.ifCond .lt 21, 3) := by decide +kernel
theorem d120_32 : decode (xcode 120) 32 = .ok (.iload_n 1, 1) := by decide +kernel
theorem d120_33 : decode (xcode 120) 33 = .ok (.bipush 61, 2) := by decide +kernel
theorem d120_35 : decode (xcode 120) 35 = .ok (.if_icmp .ge 15, 3) := by decide +kernel
theorem d120_38 : decode (xcode 120) 38 = .ok (.aload_n 0, 1) := by decide +kernel
theorem d120_39 : decode (xcode 120) 39 = .ok (.getfield 55, 3) := by decide +kernel
theorem d120_42 : decode (xcode 120) 42 = .ok (.getfield 130, 3) := by decide +kernel
theorem d120_45 : decode (xcode 120) 45 = .ok (.bipush 10, 2) := by decide +kernel
theorem d120_47 : decode (xcode 120) 47 = .ok (.if_icmp .lt 6, 3) := by decide +kernel
theorem d120_50 : decode (xcode 120) 50 = .ok (.bipush (-2), 2) := by decide +kernel
theorem d120_52 : decode (xcode 120) 52 = .ok (.ireturn, 1) := by decide +kernel
theorem d120_53 : decode (xcode 120) 53 = .ok (.iload_n 2, 1) := by decide +kernel
theorem d120_54 : decode (xcode 120) 54 = .ok (.iconst (-1), 1) := by decide +kernel
theorem d120_55 : decode (xcode 120) 55 = .ok (.if_icmp .eq 20, 3) := by decide +kernel
theorem d120_58 : decode (xcode 120) 58 = .ok (.aload_n 0, 1) := by decide +kernel
theorem d120_59 : decode (xcode 120) 59 = .ok (.getfield 55, 3) := by decide +kernel
theorem d120_62 : decode (xcode 120) 62 = .ok (.getfield 114, 3) := by decide +kernel
theorem d120_65 : decode (xcode 120) 65 = .ok (.iload_n 2, 1) := by decide +kernel
theorem d120_66 : decode (xcode 120) 66 = .ok (.invokevirtual 145, 3) := by decide +kernel
theorem d120_69 : decode (xcode 120) 69 = .ok (.ifCond .ne 6, 3) := by decide +kernel
theorem d120_72 : decode (xcode 120) 72 = .ok (.bipush (-2), 2) := by decide +kernel
theorem d120_74 : decode (xcode 120) 74 = .ok (.ireturn, 1) := by decide +kernel
theorem d120_75 : decode (xcode 120) 75 = .ok (.aload_n 0, 1) := by decide +kernel
theorem d120_76 : decode (xcode 120) 76 = .ok (.getfield 55, 3) := by decide +kernel
theorem d120_79 : decode (xcode 120) 79 = .ok (.iload_n 1, 1) := by decide +kernel
theorem d120_80 : decode (xcode 120) 80 = .ok (.iload_n 2, 1) := by decide +kernel
theorem d120_81 : decode (xcode 120) 81 = .ok (.invokevirtual 310, 3) := by decide +kernel
theorem d120_84 : decode (xcode 120) 84 = .ok (.aload_n 0, 1) := by decide +kernel
theorem d120_85 : decode (xcode 120) 85 = .ok (.getfield 55, 3) := by decide +kernel
theorem d120_88 : decode (xcode 120) 88 = .ok (.getfield 130, 3) := by decide +kernel
theorem d120_91 : decode (xcode 120) 91 = .ok (.ireturn, 1) := by decide +kernel
noncomputable def f_B_note_b75 (v1 : Int32) (v2 : Int32) (h : xH) : Option (Int32 × xH) :=
  (f_Scene_keepNote 0 v1 v2 h).bind fun h10 =>
  some ((h10.1 4 4 0, h10))
set_option maxHeartbeats 4000000 in
set_option maxRecDepth 100000 in
theorem f_B_note_b75_ok {g : xG} {l : Launch} {d : Nat} {v1 : Int32} {v2 : Int32} {h : xH} {o : (Int32 × xH)} {R : Option xV} {H' : xH} (hD : 1 ≤ d) (hf : f_B_note_b75 v1 v2 h = some o) (K0 : ∀ (a : Int32) (h1 : xH), o = (a, h1) → R = some (xi a) ∧ H' = h1) : xEv g l d 120 75 [(0, xr 11 (some 0)), (1, xi v1), (2, xi v2)] [] h R H' := by
  unfold f_B_note_b75 at hf
  refine xs_aload_n d120_75 rfl ?_
  refine xe_getc (j := 0) d120_76 ky120 fl153 fk11_6 rfl ?_
  refine xs_iload_n d120_79 rfl ?_
  refine xs_iload_n d120_80 rfl ?_
  obtain ⟨h10, hc9, hf⟩ := lk_b hf
  refine xe_callv0 (as := [xi v1, xi v2]) (st := []) (h2 := h10) (d2 := d - 1) d120_81 ky120 ml153 st25 (by decide) cn25 rfl na25 (Nat.le_of_ble_eq_true rfl) (by omega) (f_Scene_keepNote_ok (by omega) hc9) ?_
  refine xs_aload_n d120_84 rfl ?_
  refine xe_getc (j := 0) d120_85 ky120 fl153 fk11_6 rfl ?_
  refine xe_geti d120_88 ky120 fl104 fk4_4 ?_
  obtain ⟨eR, eH⟩ := K0 _ _ (Option.some.inj hf).symm
  subst eR; subst eH
  exact xs_iret d120_91 rt120
noncomputable def f_B_note_e (v1 : Int32) (v2 : Int32) (h : xH) : Option (Int32 × xH) :=
  if v1 = (-1 : Int32) then (
  xlet (xsI h 4 4 0 (0 : Int32)) fun h2 =>
  some (((0 : Int32), h2))) else (
  if (h.1 8 0 0) = (0 : Int32) then (
  some (((-2 : Int32), h))) else (
  if v1 < (0 : Int32) then (
  some (((-2 : Int32), h))) else (
  if (61 : Int32) ≤ v1 then (
  some (((-2 : Int32), h))) else (
  if (h.1 4 4 0) < (10 : Int32) then (
  if v2 = (-1 : Int32) then (
  f_B_note_b75 v1 v2 h) else (
  (f_Told_hasSorrow 0 v2 h).bind fun r11 =>
  if r11 = (0 : Int32) then (
  some (((-2 : Int32), h))) else (
  f_B_note_b75 v1 v2 h))) else (
  some (((-2 : Int32), h)))))))
set_option maxHeartbeats 4000000 in
set_option maxRecDepth 100000 in
theorem f_B_note_e_ok {g : xG} {l : Launch} {d : Nat} {v1 : Int32} {v2 : Int32} {h : xH} {o : (Int32 × xH)} {R : Option xV} {H' : xH} (hD : 1 ≤ d) (hf : f_B_note_e v1 v2 h = some o) (K0 : ∀ (a : Int32) (h1 : xH), o = (a, h1) → R = some (xi a) ∧ H' = h1) : xEv g l d 120 0 [(0, xr 11 (some 0)), (1, xi v1), (2, xi v2)] [] h R H' := by
  unfold f_B_note_e at hf
  refine xs_iload_n d120_0 rfl ?_
  refine xs_iconst (v := -1) d120_1 (by decide) ?_
  rcases lk_if hf with ⟨hc1, hf⟩ | ⟨hc1, hf⟩
  · refine xs_icmp_ne (tgt := 15) d120_2 (by decide) (fun _ => ?_) (fun hn => absurd hc1 hn)
    refine xs_aload_n d120_5 rfl ?_
    refine xe_getc (j := 0) d120_6 ky120 fl153 fk11_6 rfl ?_
    refine xs_iconst (v := 0) d120_9 (by decide) ?_
    obtain ⟨h2, eh2, hf⟩ := lk_let hf
    refine xe_puti d120_10 ky120 fl104 fk4_4 ft4_4 eh2 ?_
    refine xs_iconst (v := 0) d120_13 (by decide) ?_
    obtain ⟨eR, eH⟩ := K0 _ _ (Option.some.inj hf).symm
    subst eR; subst eH
    exact xs_iret d120_14 rt120
  · refine xs_icmp_ne (tgt := 15) d120_2 (by decide) (fun hp => absurd hp hc1) (fun _ => ?_)
    refine xs_aload_n d120_15 rfl ?_
    refine xe_getc (j := 0) d120_16 ky120 fl153 fk11_6 rfl ?_
    refine xe_getc (j := 0) d120_19 ky120 fl96 fk4_0 rfl ?_
    refine xe_geti d120_22 ky120 fl19 fk8_0 ?_
    rcases lk_if hf with ⟨hc3, hf⟩ | ⟨hc3, hf⟩
    · refine xs_if_eq (tgt := 50) d120_25 (by decide) (fun _ => ?_) (fun hn => absurd hc3 hn)
      refine xs_bipush (v := -2) d120_50 (by decide) ?_
      obtain ⟨eR, eH⟩ := K0 _ _ (Option.some.inj hf).symm
      subst eR; subst eH
      exact xs_iret d120_52 rt120
    · refine xs_if_eq (tgt := 50) d120_25 (by decide) (fun hp => absurd hp hc3) (fun _ => ?_)
      refine xs_iload_n d120_28 rfl ?_
      rcases lk_if hf with ⟨hc4, hf⟩ | ⟨hc4, hf⟩
      · refine xs_if_lt (tgt := 50) d120_29 (by decide) (fun _ => ?_) (fun hn => absurd hc4 hn)
        refine xs_bipush (v := -2) d120_50 (by decide) ?_
        obtain ⟨eR, eH⟩ := K0 _ _ (Option.some.inj hf).symm
        subst eR; subst eH
        exact xs_iret d120_52 rt120
      · refine xs_if_lt (tgt := 50) d120_29 (by decide) (fun hp => absurd hp hc4) (fun _ => ?_)
        refine xs_iload_n d120_32 rfl ?_
        refine xs_bipush (v := 61) d120_33 (by decide) ?_
        rcases lk_if hf with ⟨hc5, hf⟩ | ⟨hc5, hf⟩
        · refine xs_icmp_ge (tgt := 50) d120_35 (by decide) (fun _ => ?_) (fun hn => absurd hc5 hn)
          refine xs_bipush (v := -2) d120_50 (by decide) ?_
          obtain ⟨eR, eH⟩ := K0 _ _ (Option.some.inj hf).symm
          subst eR; subst eH
          exact xs_iret d120_52 rt120
        · refine xs_icmp_ge (tgt := 50) d120_35 (by decide) (fun hp => absurd hp hc5) (fun _ => ?_)
          refine xs_aload_n d120_38 rfl ?_
          refine xe_getc (j := 0) d120_39 ky120 fl153 fk11_6 rfl ?_
          refine xe_geti d120_42 ky120 fl104 fk4_4 ?_
          refine xs_bipush (v := 10) d120_45 (by decide) ?_
          rcases lk_if hf with ⟨hc6, hf⟩ | ⟨hc6, hf⟩
          · refine xs_icmp_lt (tgt := 53) d120_47 (by decide) (fun _ => ?_) (fun hn => absurd hc6 hn)
            refine xs_iload_n d120_53 rfl ?_
            refine xs_iconst (v := -1) d120_54 (by decide) ?_
            rcases lk_if hf with ⟨hc7, hf⟩ | ⟨hc7, hf⟩
            · refine xs_icmp_eq (tgt := 75) d120_55 (by decide) (fun _ => ?_) (fun hn => absurd hc7 hn)
              exact f_B_note_b75_ok hD hf K0
            · refine xs_icmp_eq (tgt := 75) d120_55 (by decide) (fun hp => absurd hp hc7) (fun _ => ?_)
              refine xs_aload_n d120_58 rfl ?_
              refine xe_getc (j := 0) d120_59 ky120 fl153 fk11_6 rfl ?_
              refine xe_getc (j := 0) d120_62 ky120 fl96 fk4_0 rfl ?_
              refine xs_iload_n d120_65 rfl ?_
              obtain ⟨r11, hc12, hf⟩ := lk_b hf
              refine xe_callv1 (as := [xi v2]) (st := []) (h2 := h) (d2 := d - 1) d120_66 ky120 ml58 st76 (by decide) cn76 rfl na76 (Nat.le_of_ble_eq_true rfl) (by omega) (f_Told_hasSorrow_ok (by omega) hc12) ?_
              rcases lk_if hf with ⟨hc13, hf⟩ | ⟨hc13, hf⟩
              · refine xs_if_ne (tgt := 75) d120_69 (by decide) (fun _ => ?_) (fun hn => absurd hc13 hn)
                refine xs_bipush (v := -2) d120_72 (by decide) ?_
                obtain ⟨eR, eH⟩ := K0 _ _ (Option.some.inj hf).symm
                subst eR; subst eH
                exact xs_iret d120_74 rt120
              · refine xs_if_ne (tgt := 75) d120_69 (by decide) (fun hp => absurd hp hc13) (fun _ => ?_)
                exact f_B_note_b75_ok hD hf K0
          · refine xs_icmp_lt (tgt := 53) d120_47 (by decide) (fun hp => absurd hp hc6) (fun _ => ?_)
            refine xs_bipush (v := -2) d120_50 (by decide) ?_
            obtain ⟨eR, eH⟩ := K0 _ _ (Option.some.inj hf).symm
            subst eR; subst eH
            exact xs_iret d120_52 rt120
noncomputable def f_B_note (v1 : Int32) (v2 : Int32) (h : xH) : Option (Int32 × xH) := f_B_note_e v1 v2 h
theorem f_B_note_ok {g : xG} {l : Launch} {d : Nat} {v1 : Int32} {v2 : Int32} {h : xH} {r : Int32} {h1 : xH} (hD : 1 ≤ d) (hf : f_B_note v1 v2 h = some (r, h1)) : xC g l d 120 [xr 11 (some 0), xi v1, xi v2] h (some (xi r)) h1 :=
  xC_of2 (by decide) mx120 (Nat.le_of_ble_eq_true rfl) (f_B_note_e_ok hD hf (fun _ _ e => by cases e; exact ⟨rfl, rfl⟩))
theorem d132_0 : decode (xcode 132) 0 = .ok (.aload_n 0, 1) := by decide +kernel
theorem d132_1 : decode (xcode 132) 1 = .ok (.getfield 77, 3) := by decide +kernel
theorem d132_4 : decode (xcode 132) 4 = .ok (.aload_n 0, 1) := by decide +kernel
theorem d132_5 : decode (xcode 132) 5 = .ok (.getfield 55, 3) := by decide +kernel
theorem d132_8 : decode (xcode 132) 8 = .ok (.getfield 114, 3) := by decide +kernel
theorem d132_11 : decode (xcode 132) 11 = .ok (.aload_n 0, 1) := by decide +kernel
theorem d132_12 : decode (xcode 132) 12 = .ok (.iload_n 1, 1) := by decide +kernel
theorem d132_13 : decode (xcode 132) 13 = .ok (.invokevirtual 344, 3) := by decide +kernel
theorem d132_16 : decode (xcode 132) 16 = .ok (.invokevirtual 352, 3) := by decide +kernel
theorem d132_19 : decode (xcode 132) 19 = .ok (.return_, 1) := by decide +kernel
noncomputable def f_B_startFromBegin_e (v1 : Int32) (h : xH) : Option xH :=
  (f_B_ruleNumbered v1 h).bind fun r1 =>
  (f_Walk_startAnew 0 (r1) h).bind fun h5 =>
  some (h5)
set_option maxHeartbeats 4000000 in
set_option maxRecDepth 100000 in
theorem f_B_startFromBegin_e_ok {g : xG} {l : Launch} {d : Nat} {v1 : Int32} {h : xH} {o : xH} {R : Option xV} {H' : xH} (hD : 3 ≤ d) (hf : f_B_startFromBegin_e v1 h = some o) (K0 : ∀ (h1 : xH), o = h1 → R = none ∧ H' = h1) : xEv g l d 132 0 [(0, xr 11 (some 0)), (1, xi v1)] [] h R H' := by
  unfold f_B_startFromBegin_e at hf
  refine xs_aload_n d132_0 rfl ?_
  refine xe_getc (j := 0) d132_1 ky132 fl157 fk11_10 rfl ?_
  refine xs_aload_n d132_4 rfl ?_
  refine xe_getc (j := 0) d132_5 ky132 fl153 fk11_6 rfl ?_
  refine xe_getc (j := 0) d132_8 ky132 fl96 fk4_0 rfl ?_
  refine xs_aload_n d132_11 rfl ?_
  refine xs_iload_n d132_12 rfl ?_
  obtain ⟨r1, hc2, hf⟩ := lk_b hf
  refine xe_callv1 (as := [xi v1]) (st := [xr 8 (some 0), xr 10 (some 0)]) (h2 := h) (d2 := d - 1) d132_13 ky132 ml68 st130 (by decide) cn130 rfl na130 (Nat.le_of_ble_eq_true rfl) (by omega) (f_B_ruleNumbered_ok (by omega) hc2) ?_
  obtain ⟨h5, hc4, hf⟩ := lk_b hf
  refine xe_callv0 (as := [xr 8 (some 0), xr 2 (r1)]) (st := []) (h2 := h5) (d2 := d - 1) d132_16 ky132 ml156 st86 (by decide) cn86 rfl na86 (Nat.le_of_ble_eq_true rfl) (by omega) (f_Walk_startAnew_ok (by omega) hc4) ?_
  obtain ⟨eR, eH⟩ := K0 _ (Option.some.inj hf).symm
  subst eR; subst eH
  exact xs_vret d132_19 rt132
noncomputable def f_B_startFromBegin (v1 : Int32) (h : xH) : Option xH := f_B_startFromBegin_e v1 h
theorem f_B_startFromBegin_ok {g : xG} {l : Launch} {d : Nat} {v1 : Int32} {h : xH} {h1 : xH} (hD : 3 ≤ d) (hf : f_B_startFromBegin v1 h = some h1) : xC g l d 132 [xr 11 (some 0), xi v1] h none h1 :=
  xC_of2 (by decide) mx132 (Nat.le_of_ble_eq_true rfl) (f_B_startFromBegin_e_ok hD hf (fun _ e => ⟨rfl, e⟩))
theorem d135_0 : decode (xcode 135) 0 = .ok (.aload_n 0, 1) := by decide +kernel
theorem d135_1 : decode (xcode 135) 1 = .ok (.getfield 55, 3) := by decide +kernel
theorem d135_4 : decode (xcode 135) 4 = .ok (.invokevirtual 359, 3) := by decide +kernel
theorem d135_7 : decode (xcode 135) 7 = .ok (.istore_n 1, 1) := by decide +kernel
theorem d135_8 : decode (xcode 135) 8 = .ok (.iconst 0, 1) := by decide +kernel
theorem d135_9 : decode (xcode 135) 9 = .ok (.istore_n 2, 1) := by decide +kernel
theorem d135_10 : decode (xcode 135) 10 = .ok (.iload_n 2, 1) := by decide +kernel
theorem d135_11 : decode (xcode 135) 11 = .ok (.iload_n 1, 1) := by decide +kernel
theorem d135_12 : decode (xcode 135) 12 = .ok (.if_icmp .gt 29, 3) := by decide +kernel
theorem d135_15 : decode (xcode 135) 15 = .ok (.aload_n 0, 1) := by decide +kernel
theorem d135_16 : decode (xcode 135) 16 = .ok (.getfield 55, 3) := by decide +kernel
theorem d135_19 : decode (xcode 135) 19 = .ok (.iload_n 2, 1) := by decide +kernel
theorem d135_20 : decode (xcode 135) 20 = .ok (.aload_n 0, 1) := by decide +kernel
theorem d135_21 : decode (xcode 135) 21 = .ok (.getfield 77, 3) := by decide +kernel
theorem d135_24 : decode (xcode 135) 24 = .ok (.invokevirtual 187, 3) := by decide +kernel
theorem d135_27 : decode (xcode 135) 27 = .ok (.invokevirtual 362, 3) := by decide +kernel
theorem d135_30 : decode (xcode 135) 30 = .ok (.ifCond .ne 5, 3) := by decide +kernel
theorem d135_33 : decode (xcode 135) 33 = .ok (.iconst 0, 1) := by decide +kernel
theorem d135_34 : decode (xcode 135) 34 = .ok (.ireturn, 1) := by decide +kernel
theorem d135_35 : decode (xcode 135) 35 = .ok (.iinc 2 1, 3) := by decide +kernel
theorem d135_38 : decode (xcode 135) 38 = .ok (.goto (-28), 3) := by decide +kernel
theorem d135_41 : decode (xcode 135) 41 = .ok (.iconst 1, 1) := by decide +kernel
theorem d135_42 : decode (xcode 135) 42 = .ok (.ireturn, 1) := by decide +kernel
noncomputable def f_B_allNotesAreSo_s10 (v1 : Int32) (v2 : Int32) (h : xH) : Option ((Int32 × xH) ⊕ (Int32 × xH)) :=
  if v1 < v2 then (
  some (Sum.inr (((1 : Int32), h)))) else (
  (f_Walk_goOn h).bind fun q6 =>
  (f_Scene_agrees 0 v2 q6.1 q6.2).bind fun r7 =>
  if r7 = (0 : Int32) then (
  some (Sum.inr (((0 : Int32), q6.2)))) else (
  xlet (v2 + (1 : Int32)) fun v2_10 =>
  some (Sum.inl (v2_10, q6.2))))
set_option maxHeartbeats 4000000 in
set_option maxRecDepth 100000 in
theorem f_B_allNotesAreSo_s10_ok {g : xG} {l : Launch} {d : Nat} {v1 : Int32} {v2 : Int32} {h : xH} {o : ((Int32 × xH) ⊕ (Int32 × xH))} {R : Option xV} {H' : xH} (hD : 5 ≤ d) (hf : f_B_allNotesAreSo_s10 v1 v2 h = some o) (K1 : ∀ (w2 : Int32) (h1 : xH), o = Sum.inl (w2, h1) → xEv g l d 135 10 [(0, xr 11 (some 0)), (1, xi v1), (2, xi w2)] [] h1 R H') (K0 : ∀ (a : Int32) (h1 : xH), o = Sum.inr ((a, h1)) → R = some (xi a) ∧ H' = h1) : xEv g l d 135 10 [(0, xr 11 (some 0)), (1, xi v1), (2, xi v2)] [] h R H' := by
  unfold f_B_allNotesAreSo_s10 at hf
  refine xs_iload_n d135_10 rfl ?_
  refine xs_iload_n d135_11 rfl ?_
  rcases lk_if hf with ⟨hc3, hf⟩ | ⟨hc3, hf⟩
  · refine xs_icmp_gt (tgt := 41) d135_12 (by decide) (fun _ => ?_) (fun hn => absurd hc3 hn)
    refine xs_iconst (v := 1) d135_41 (by decide) ?_
    obtain ⟨eR, eH⟩ := K0 _ _ (Option.some.inj hf).symm
    subst eR; subst eH
    exact xe_zret d135_42 (Or.inr rfl) rt135
  · refine xs_icmp_gt (tgt := 41) d135_12 (by decide) (fun hp => absurd hp hc3) (fun _ => ?_)
    refine xs_aload_n d135_15 rfl ?_
    refine xe_getc (j := 0) d135_16 ky135 fl153 fk11_6 rfl ?_
    refine xs_iload_n d135_19 rfl ?_
    refine xs_aload_n d135_20 rfl ?_
    refine xe_getc (j := 0) d135_21 ky135 fl157 fk11_10 rfl ?_
    obtain ⟨q6, hc5, hf⟩ := lk_b hf
    refine xe_callv1 (as := []) (st := [xi v2, xr 4 (some 0)]) (h2 := q6.2) (d2 := d - 1) d135_24 ky135 ml71 st87 (by decide) cn87 rfl na87 (Nat.le_of_ble_eq_true rfl) (by omega) (f_Walk_goOn_ok (by omega) hc5) ?_
    obtain ⟨r7, hc8, hf⟩ := lk_b hf
    refine xe_callv1 (as := [xi v2, xi q6.1]) (st := []) (h2 := q6.2) (d2 := d - 1) d135_27 ky135 ml161 st27 (by decide) cn27 rfl na27 (Nat.le_of_ble_eq_true rfl) (by omega) (f_Scene_agrees_ok (by omega) hc8) ?_
    rcases lk_if hf with ⟨hc9, hf⟩ | ⟨hc9, hf⟩
    · refine xs_if_ne (tgt := 35) d135_30 (by decide) (fun _ => ?_) (fun hn => absurd hc9 hn)
      refine xs_iconst (v := 0) d135_33 (by decide) ?_
      obtain ⟨eR, eH⟩ := K0 _ _ (Option.some.inj hf).symm
      subst eR; subst eH
      exact xe_zret d135_34 (Or.inl rfl) rt135
    · refine xs_if_ne (tgt := 35) d135_30 (by decide) (fun hp => absurd hp hc9) (fun _ => ?_)
      obtain ⟨v2_10, ev2_10, hf⟩ := lk_let hf
      refine xe_iinc (v := v2_10) (b := 1) (ls2 := [(0, xr 11 (some 0)), (1, xi v1), (2, xi v2_10)]) d135_35 mx135 (by decide) rfl (by decide) ev2_10 rfl ?_
      refine xs_goto (tgt := 10) d135_38 (by decide) ?_
      exact K1 _ _ (Option.some.inj hf).symm
noncomputable def f_B_allNotesAreSo_l10 (v1 : Int32) (v2 : Int32) (h : xH) : Option (Int32 × xH) :=
  whl (fun s => f_B_allNotesAreSo_s10 v1 s.1 s.2) (v2, h)
theorem f_B_allNotesAreSo_l10_ok {g : xG} {l : Launch} {d : Nat} {v1 : Int32} {v2 : Int32} {h : xH} {o : (Int32 × xH)} {R : Option xV} {H' : xH} (hD : 5 ≤ d) (hf : f_B_allNotesAreSo_l10 v1 v2 h = some o) (K0 : ∀ (a : Int32) (h1 : xH), o = (a, h1) → R = some (xi a) ∧ H' = h1) : xEv g l d 135 10 [(0, xr 11 (some 0)), (1, xi v1), (2, xi v2)] [] h R H' := by
  obtain ⟨n, hn⟩ := whl_iff.mp hf
  clear hf
  induction n generalizing v2 h with
  | zero => cases hn
  | succ n ih =>
    obtain ⟨o2, hs, hn⟩ := lk_b (show (f_B_allNotesAreSo_s10 v1 v2 h).bind (fun o => Sum.elim (itn _ n) some o) = some o from hn)
    exact f_B_allNotesAreSo_s10_ok hD hs (fun u0 u1 e => ih (by rw [e] at hn; exact hn)) (fun u0 u1 e => K0 u0 u1 (by rw [e] at hn; exact (Option.some.inj hn).symm))
noncomputable def f_B_allNotesAreSo_e (h : xH) : Option (Int32 × xH) :=
  (f_Scene_lastNoted 0 h).bind fun r1 =>
  f_B_allNotesAreSo_l10 r1 (0 : Int32) h
set_option maxHeartbeats 4000000 in
set_option maxRecDepth 100000 in
theorem f_B_allNotesAreSo_e_ok {g : xG} {l : Launch} {d : Nat} {h : xH} {o : (Int32 × xH)} {R : Option xV} {H' : xH} (hD : 5 ≤ d) (hf : f_B_allNotesAreSo_e h = some o) (K0 : ∀ (a : Int32) (h1 : xH), o = (a, h1) → R = some (xi a) ∧ H' = h1) : xEv g l d 135 0 [(0, xr 11 (some 0))] [] h R H' := by
  unfold f_B_allNotesAreSo_e at hf
  refine xs_aload_n d135_0 rfl ?_
  refine xe_getc (j := 0) d135_1 ky135 fl153 fk11_6 rfl ?_
  obtain ⟨r1, hc2, hf⟩ := lk_b hf
  refine xe_callv1 (as := []) (st := []) (h2 := h) (d2 := d - 1) d135_4 ky135 ml159 st26 (by decide) cn26 rfl na26 (Nat.le_of_ble_eq_true rfl) (by omega) (f_Scene_lastNoted_ok (by omega) hc2) ?_
  refine xe_istore_n (v := r1) (ls2 := [(0, xr 11 (some 0)), (1, xi r1)]) d135_7 mx135 (by decide) rfl rfl ?_
  refine xs_iconst (v := 0) d135_8 (by decide) ?_
  refine xe_istore_n (v := (0 : Int32)) (ls2 := [(0, xr 11 (some 0)), (1, xi r1), (2, xi (0 : Int32))]) d135_9 mx135 (by decide) rfl rfl ?_
  exact f_B_allNotesAreSo_l10_ok hD hf K0
noncomputable def f_B_allNotesAreSo (h : xH) : Option (Int32 × xH) := f_B_allNotesAreSo_e h
theorem f_B_allNotesAreSo_ok {g : xG} {l : Launch} {d : Nat} {h : xH} {r : Int32} {h1 : xH} (hD : 5 ≤ d) (hf : f_B_allNotesAreSo h = some (r, h1)) : xC g l d 135 [xr 11 (some 0)] h (some (xi r)) h1 :=
  xC_of2 (by decide) mx135 (Nat.le_of_ble_eq_true rfl) (f_B_allNotesAreSo_e_ok hD hf (fun _ _ e => by cases e; exact ⟨rfl, rfl⟩))
theorem d121_0 : decode (xcode 121) 0 = .ok (.iload_n 2, 1) := by decide +kernel
theorem d121_1 : decode (xcode 121) 1 = .ok (.ifCond .lt 22, 3) := by decide +kernel
theorem d121_4 : decode (xcode 121) 4 = .ok (.iload_n 2, 1) := by decide +kernel
theorem d121_5 : decode (xcode 121) 5 = .ok (.iconst 1, 1) := by decide +kernel
theorem d121_6 : decode (xcode 121) 6 = .ok (.if_icmp .gt 17, 3) := by decide +kernel
theorem d121_9 : decode (xcode 121) 9 = .ok (.aload_n 0, 1) := by decide +kernel
theorem d121_10 : decode (xcode 121) 10 = .ok (.getfield 55, 3) := by decide +kernel
theorem d121_13 : decode (xcode 121) 13 = .ok (.getfield 114, 3) := by decide +kernel
theorem d121_16 : decode (xcode 121) 16 = .ok (.iload_n 1, 1) := by decide +kernel
theorem d121_17 : decode (xcode 121) 17 = .ok (.invokevirtual 145, 3) := by decide +kernel
theorem d121_20 : decode (xcode 121) 20 = .ok (.ifCond .ne 5, 3) := by decide +kernel
theorem d121_23 : decode (xcode 121) 23 = .ok (.iconst (-1), 1) := by decide +kernel
theorem d121_24 : decode (xcode 121) 24 = .ok (.ireturn, 1) := by decide +kernel
theorem d121_25 : decode (xcode 121) 25 = .ok (.iconst 0, 1) := by decide +kernel
theorem d121_26 : decode (xcode 121) 26 = .ok (.istore_n 3, 1) := by decide +kernel
theorem d121_27 : decode (xcode 121) 27 = .ok (.bipush (-2), 2) := by decide +kernel
theorem d121_29 : decode (xcode 121) 29 = .ok (.istore 4, 2) := by decide +kernel
theorem d121_31 : decode (xcode 121) 31 = .ok (.bipush 40, 2) := by decide +kernel
theorem d121_33 : decode (xcode 121) 33 = .ok (.istore 5, 2) := by decide +kernel
theorem d121_35 : decode (xcode 121) 35 = .ok (.iload 5, 2) := by decide +kernel
theorem d121_37 : decode (xcode 121) 37 = .ok (.iconst 1, 1) := by decide +kernel
theorem d121_38 : decode (xcode 121) 38 = .ok (.if_icmp .lt 48, 3) := by decide +kernel
theorem d121_41 : decode (xcode 121) 41 = .ok (.aload_n 0, 1) := by decide +kernel
theorem d121_42 : decode (xcode 121) 42 = .ok (.aload_n 0, 1) := by decide +kernel
theorem d121_43 : decode (xcode 121) 43 = .ok (.getfield 55, 3) := by decide +kernel
theorem d121_46 : decode (xcode 121) 46 = .ok (.getfield 142, 3) := by decide +kernel
theorem d121_49 : decode (xcode 121) 49 = .ok (.invokevirtual 313, 3) := by decide +kernel
theorem d121_52 : decode (xcode 121) 52 = .ok (.aload_n 0, 1) := by decide +kernel
theorem d121_53 : decode (xcode 121) 53 = .ok (.getfield 77, 3) := by decide +kernel
theorem d121_56 : decode (xcode 121) 56 = .ok (.getfield 190, 3) := by decide +kernel
theorem d121_59 : decode (xcode 121) 59 = .ok (.getfield 151, 3) := by decide +kernel
theorem d121_62 : decode (xcode 121) 62 = .ok (.iload_n 1, 1) := by decide +kernel
theorem d121_63 : decode (xcode 121) 63 = .ok (.iload 5, 2) := by decide +kernel
theorem d121_65 : decode (xcode 121) 65 = .ok (.iastore, 1) := by decide +kernel
theorem d121_66 : decode (xcode 121) 66 = .ok (.aload_n 0, 1) := by decide +kernel
theorem d121_67 : decode (xcode 121) 67 = .ok (.invokevirtual 316, 3) := by decide +kernel
theorem d121_70 : decode (xcode 121) 70 = .ok (.ifCond .eq 10, 3) := by decide +kernel
theorem d121_73 : decode (xcode 121) 73 = .ok (.iinc 3 1, 3) := by decide +kernel
theorem d121_76 : decode (xcode 121) 76 = .ok (.iload 5, 2) := by decide +kernel
theorem d121_78 : decode (xcode 121) 78 = .ok (.istore 4, 2) := by decide +kernel
theorem d121_80 : decode (xcode 121) 80 = .ok (.iinc 5 (-1), 3) := by decide +kernel
theorem d121_83 : decode (xcode 121) 83 = .ok (.goto (-48), 3) := by decide +kernel
theorem d121_86 : decode (xcode 121) 86 = .ok (.iload_n 2, 1) := by decide +kernel
theorem d121_87 : decode (xcode 121) 87 = .ok (.ifCond .ne 7, 3) := by decide +kernel
theorem d121_90 : decode (xcode 121) 90 = .ok (.iload_n 3, 1) := by decide +kernel
theorem d121_91 : decode (xcode 121) 91 = .ok (.goto 5, 3) := by decide +kernel
theorem d121_94 : decode (xcode 121) 94 = .ok (.iload 4, 2) := by decide +kernel
theorem d121_96 : decode (xcode 121) 96 = .ok (.ireturn, 1) := by decide +kernel
noncomputable def f_B_took_b86 (v2 : Int32) (v3 : Int32) (v4 : Int32) (h : xH) : Option (Int32 × xH) :=
  if v2 = (0 : Int32) then (
  some ((v3, h))) else (
  some ((v4, h)))
set_option maxHeartbeats 4000000 in
set_option maxRecDepth 100000 in
theorem f_B_took_b86_ok {g : xG} {l : Launch} {d : Nat} {v2 : Int32} {v3 : Int32} {v4 : Int32} {h : xH} {o : (Int32 × xH)} {R : Option xV} {H' : xH} (hD : 6 ≤ d) (hf : f_B_took_b86 v2 v3 v4 h = some o) (K0 : ∀ (a : Int32) (h1 : xH), o = (a, h1) → R = some (xi a) ∧ H' = h1) : xEv g l d 121 86 [(2, xi v2), (3, xi v3), (4, xi v4)] [] h R H' := by
  unfold f_B_took_b86 at hf
  refine xs_iload_n d121_86 rfl ?_
  rcases lk_if hf with ⟨hc7, hf⟩ | ⟨hc7, hf⟩
  · refine xs_if_ne (tgt := 94) d121_87 (by decide) (fun _ => ?_) (fun hn => absurd hc7 hn)
    refine xs_iload_n d121_90 rfl ?_
    refine xs_goto (tgt := 96) d121_91 (by decide) ?_
    obtain ⟨eR, eH⟩ := K0 _ _ (Option.some.inj hf).symm
    subst eR; subst eH
    exact xs_iret d121_96 rt121
  · refine xs_if_ne (tgt := 94) d121_87 (by decide) (fun hp => absurd hp hc7) (fun _ => ?_)
    refine xs_iload d121_94 rfl ?_
    obtain ⟨eR, eH⟩ := K0 _ _ (Option.some.inj hf).symm
    subst eR; subst eH
    exact xs_iret d121_96 rt121
noncomputable def f_B_took_b80 (v1 : Int32) (v2 : Int32) (v3 : Int32) (v4 : Int32) (v5 : Int32) (h : xH) : Option ((Int32 × Int32 × Int32 × xH) ⊕ (Int32 × xH)) :=
  xlet (v5 + (-1 : Int32)) fun v5_17 =>
  some (Sum.inl (v3, v4, v5_17, h))
set_option maxHeartbeats 4000000 in
set_option maxRecDepth 100000 in
theorem f_B_took_b80_ok {g : xG} {l : Launch} {d : Nat} {v1 : Int32} {v2 : Int32} {v3 : Int32} {v4 : Int32} {v5 : Int32} {h : xH} {o : ((Int32 × Int32 × Int32 × xH) ⊕ (Int32 × xH))} {R : Option xV} {H' : xH} (hD : 6 ≤ d) (hf : f_B_took_b80 v1 v2 v3 v4 v5 h = some o) (K1 : ∀ (w3 : Int32) (w4 : Int32) (w5 : Int32) (h1 : xH), o = Sum.inl (w3, w4, w5, h1) → xEv g l d 121 35 [(0, xr 11 (some 0)), (1, xi v1), (2, xi v2), (3, xi w3), (4, xi w4), (5, xi w5)] [] h1 R H') (K0 : ∀ (a : Int32) (h1 : xH), o = Sum.inr ((a, h1)) → R = some (xi a) ∧ H' = h1) : xEv g l d 121 80 [(0, xr 11 (some 0)), (1, xi v1), (2, xi v2), (3, xi v3), (4, xi v4), (5, xi v5)] [] h R H' := by
  unfold f_B_took_b80 at hf
  obtain ⟨v5_17, ev5_17, hf⟩ := lk_let hf
  refine xe_iinc (v := v5_17) (b := -1) (ls2 := [(0, xr 11 (some 0)), (1, xi v1), (2, xi v2), (3, xi v3), (4, xi v4), (5, xi v5_17)]) d121_80 mx121 (by decide) rfl (by decide) ev5_17 rfl ?_
  refine xs_goto (tgt := 35) d121_83 (by decide) ?_
  exact K1 _ _ _ _ (Option.some.inj hf).symm
noncomputable def f_B_took_s35 (v1 : Int32) (v2 : Int32) (v3 : Int32) (v4 : Int32) (v5 : Int32) (h : xH) : Option ((Int32 × Int32 × Int32 × xH) ⊕ (Int32 × xH)) :=
  if v5 < (1 : Int32) then (
  xup (f_B_took_b86 v2 v3 v4 h)) else (
  (f_B_startFromBegin (h.1 4 2 0) h).bind fun h10 =>
  if xib v1 8 then (
  xlet (xsA h10 32 25 (upd (h10.2.2.2.1 32 25) (v1).toNatClampNeg v5)) fun h12 =>
  (f_B_allNotesAreSo h12).bind fun q15 =>
  if q15.1 = (0 : Int32) then (
  f_B_took_b80 v1 v2 v3 v4 v5 q15.2) else (
  xlet (v3 + (1 : Int32)) fun v3_18 =>
  f_B_took_b80 v1 v2 v3_18 v5 v5 q15.2)) else none)
set_option maxHeartbeats 4000000 in
set_option maxRecDepth 100000 in
theorem f_B_took_s35_ok {g : xG} {l : Launch} {d : Nat} {v1 : Int32} {v2 : Int32} {v3 : Int32} {v4 : Int32} {v5 : Int32} {h : xH} {o : ((Int32 × Int32 × Int32 × xH) ⊕ (Int32 × xH))} {R : Option xV} {H' : xH} (hD : 6 ≤ d) (hf : f_B_took_s35 v1 v2 v3 v4 v5 h = some o) (K1 : ∀ (w3 : Int32) (w4 : Int32) (w5 : Int32) (h1 : xH), o = Sum.inl (w3, w4, w5, h1) → xEv g l d 121 35 [(0, xr 11 (some 0)), (1, xi v1), (2, xi v2), (3, xi w3), (4, xi w4), (5, xi w5)] [] h1 R H') (K0 : ∀ (a : Int32) (h1 : xH), o = Sum.inr ((a, h1)) → R = some (xi a) ∧ H' = h1) : xEv g l d 121 35 [(0, xr 11 (some 0)), (1, xi v1), (2, xi v2), (3, xi v3), (4, xi v4), (5, xi v5)] [] h R H' := by
  unfold f_B_took_s35 at hf
  refine xs_iload d121_35 rfl ?_
  refine xs_iconst (v := 1) d121_37 (by decide) ?_
  rcases lk_if hf with ⟨hc6, hf⟩ | ⟨hc6, hf⟩
  · refine xs_icmp_lt (tgt := 86) d121_38 (by decide) (fun _ => ?_) (fun hn => absurd hc6 hn)
    refine xs_pick [2, 3, 4] rfl ?_
    obtain ⟨x0, hf, ex0⟩ := lk_up hf
    exact f_B_took_b86_ok hD hf (fun u0 u1 e => K0 u0 u1 (ex0.trans (congrArg Sum.inr e)))
  · refine xs_icmp_lt (tgt := 86) d121_38 (by decide) (fun hp => absurd hp hc6) (fun _ => ?_)
    refine xs_aload_n d121_41 rfl ?_
    refine xs_aload_n d121_42 rfl ?_
    refine xe_getc (j := 0) d121_43 ky121 fl153 fk11_6 rfl ?_
    refine xe_geti d121_46 ky121 fl100 fk4_2 ?_
    obtain ⟨h10, hc9, hf⟩ := lk_b hf
    refine xe_callv0 (as := [xi (h.1 4 2 0)]) (st := []) (h2 := h10) (d2 := d - 1) d121_49 ky121 ml155 st132 (by decide) cn132 rfl na132 (Nat.le_of_ble_eq_true rfl) (by omega) (f_B_startFromBegin_ok (by omega) hc9) ?_
    refine xs_aload_n d121_52 rfl ?_
    refine xe_getc (j := 0) d121_53 ky121 fl157 fk11_10 rfl ?_
    refine xe_getc (j := 25) d121_56 ky121 fl112 fk10_0 rfl ?_
    refine xe_getc (j := 25) d121_59 ky121 fl93 fk6_7 rfl ?_
    refine xs_iload_n d121_62 rfl ?_
    refine xs_iload d121_63 rfl ?_
    obtain ⟨hin11, hf⟩ := lk_g hf
    obtain ⟨h12, eh12, hf⟩ := lk_let hf
    refine xe_iast d121_65 (by decide) ak32 hin11  eh12 ?_
    refine xs_aload_n d121_66 rfl ?_
    obtain ⟨q15, hc14, hf⟩ := lk_b hf
    refine xe_callv1 (as := []) (st := []) (h2 := q15.2) (d2 := d - 1) d121_67 ky121 ml158 st135 (by decide) cn135 rfl na135 (Nat.le_of_ble_eq_true rfl) (by omega) (f_B_allNotesAreSo_ok (by omega) hc14) ?_
    rcases lk_if hf with ⟨hc16, hf⟩ | ⟨hc16, hf⟩
    · refine xs_if_eq (tgt := 80) d121_70 (by decide) (fun _ => ?_) (fun hn => absurd hc16 hn)
      exact f_B_took_b80_ok hD hf K1 K0
    · refine xs_if_eq (tgt := 80) d121_70 (by decide) (fun hp => absurd hp hc16) (fun _ => ?_)
      obtain ⟨v3_18, ev3_18, hf⟩ := lk_let hf
      refine xe_iinc (v := v3_18) (b := 1) (ls2 := [(0, xr 11 (some 0)), (1, xi v1), (2, xi v2), (3, xi v3_18), (4, xi v4), (5, xi v5)]) d121_73 mx121 (by decide) rfl (by decide) ev3_18 rfl ?_
      refine xs_iload d121_76 rfl ?_
      refine xe_istore (v := v5) (ls2 := [(0, xr 11 (some 0)), (1, xi v1), (2, xi v2), (3, xi v3_18), (4, xi v5), (5, xi v5)]) d121_78 mx121 (by decide) rfl rfl ?_
      exact f_B_took_b80_ok hD hf K1 K0
noncomputable def f_B_took_l35 (v1 : Int32) (v2 : Int32) (v3 : Int32) (v4 : Int32) (v5 : Int32) (h : xH) : Option (Int32 × xH) :=
  whl (fun s => f_B_took_s35 v1 v2 s.1 s.2.1 s.2.2.1 s.2.2.2) (v3, v4, v5, h)
theorem f_B_took_l35_ok {g : xG} {l : Launch} {d : Nat} {v1 : Int32} {v2 : Int32} {v3 : Int32} {v4 : Int32} {v5 : Int32} {h : xH} {o : (Int32 × xH)} {R : Option xV} {H' : xH} (hD : 6 ≤ d) (hf : f_B_took_l35 v1 v2 v3 v4 v5 h = some o) (K0 : ∀ (a : Int32) (h1 : xH), o = (a, h1) → R = some (xi a) ∧ H' = h1) : xEv g l d 121 35 [(0, xr 11 (some 0)), (1, xi v1), (2, xi v2), (3, xi v3), (4, xi v4), (5, xi v5)] [] h R H' := by
  obtain ⟨n, hn⟩ := whl_iff.mp hf
  clear hf
  induction n generalizing v3 v4 v5 h with
  | zero => cases hn
  | succ n ih =>
    obtain ⟨o2, hs, hn⟩ := lk_b (show (f_B_took_s35 v1 v2 v3 v4 v5 h).bind (fun o => Sum.elim (itn _ n) some o) = some o from hn)
    exact f_B_took_s35_ok hD hs (fun u0 u1 u2 u3 e => ih (by rw [e] at hn; exact hn)) (fun u0 u1 e => K0 u0 u1 (by rw [e] at hn; exact (Option.some.inj hn).symm))
noncomputable def f_B_took_e (v1 : Int32) (v2 : Int32) (h : xH) : Option (Int32 × xH) :=
  if v2 < (0 : Int32) then (
  some (((-1 : Int32), h))) else (
  if (1 : Int32) < v2 then (
  some (((-1 : Int32), h))) else (
  (f_Told_hasSorrow 0 v1 h).bind fun r3 =>
  if r3 = (0 : Int32) then (
  some (((-1 : Int32), h))) else (
  f_B_took_l35 v1 v2 (0 : Int32) (-2 : Int32) (40 : Int32) h)))
set_option maxHeartbeats 4000000 in
set_option maxRecDepth 100000 in
theorem f_B_took_e_ok {g : xG} {l : Launch} {d : Nat} {v1 : Int32} {v2 : Int32} {h : xH} {o : (Int32 × xH)} {R : Option xV} {H' : xH} (hD : 6 ≤ d) (hf : f_B_took_e v1 v2 h = some o) (K0 : ∀ (a : Int32) (h1 : xH), o = (a, h1) → R = some (xi a) ∧ H' = h1) : xEv g l d 121 0 [(0, xr 11 (some 0)), (1, xi v1), (2, xi v2)] [] h R H' := by
  unfold f_B_took_e at hf
  refine xs_iload_n d121_0 rfl ?_
  rcases lk_if hf with ⟨hc1, hf⟩ | ⟨hc1, hf⟩
  · refine xs_if_lt (tgt := 23) d121_1 (by decide) (fun _ => ?_) (fun hn => absurd hc1 hn)
    refine xs_iconst (v := -1) d121_23 (by decide) ?_
    obtain ⟨eR, eH⟩ := K0 _ _ (Option.some.inj hf).symm
    subst eR; subst eH
    exact xs_iret d121_24 rt121
  · refine xs_if_lt (tgt := 23) d121_1 (by decide) (fun hp => absurd hp hc1) (fun _ => ?_)
    refine xs_iload_n d121_4 rfl ?_
    refine xs_iconst (v := 1) d121_5 (by decide) ?_
    rcases lk_if hf with ⟨hc2, hf⟩ | ⟨hc2, hf⟩
    · refine xs_icmp_gt (tgt := 23) d121_6 (by decide) (fun _ => ?_) (fun hn => absurd hc2 hn)
      refine xs_iconst (v := -1) d121_23 (by decide) ?_
      obtain ⟨eR, eH⟩ := K0 _ _ (Option.some.inj hf).symm
      subst eR; subst eH
      exact xs_iret d121_24 rt121
    · refine xs_icmp_gt (tgt := 23) d121_6 (by decide) (fun hp => absurd hp hc2) (fun _ => ?_)
      refine xs_aload_n d121_9 rfl ?_
      refine xe_getc (j := 0) d121_10 ky121 fl153 fk11_6 rfl ?_
      refine xe_getc (j := 0) d121_13 ky121 fl96 fk4_0 rfl ?_
      refine xs_iload_n d121_16 rfl ?_
      obtain ⟨r3, hc4, hf⟩ := lk_b hf
      refine xe_callv1 (as := [xi v1]) (st := []) (h2 := h) (d2 := d - 1) d121_17 ky121 ml58 st76 (by decide) cn76 rfl na76 (Nat.le_of_ble_eq_true rfl) (by omega) (f_Told_hasSorrow_ok (by omega) hc4) ?_
      rcases lk_if hf with ⟨hc5, hf⟩ | ⟨hc5, hf⟩
      · refine xs_if_ne (tgt := 25) d121_20 (by decide) (fun _ => ?_) (fun hn => absurd hc5 hn)
        refine xs_iconst (v := -1) d121_23 (by decide) ?_
        obtain ⟨eR, eH⟩ := K0 _ _ (Option.some.inj hf).symm
        subst eR; subst eH
        exact xs_iret d121_24 rt121
      · refine xs_if_ne (tgt := 25) d121_20 (by decide) (fun hp => absurd hp hc5) (fun _ => ?_)
        refine xs_iconst (v := 0) d121_25 (by decide) ?_
        refine xe_istore_n (v := (0 : Int32)) (ls2 := [(0, xr 11 (some 0)), (1, xi v1), (2, xi v2), (3, xi (0 : Int32))]) d121_26 mx121 (by decide) rfl rfl ?_
        refine xs_bipush (v := -2) d121_27 (by decide) ?_
        refine xe_istore (v := (-2 : Int32)) (ls2 := [(0, xr 11 (some 0)), (1, xi v1), (2, xi v2), (3, xi (0 : Int32)), (4, xi (-2 : Int32))]) d121_29 mx121 (by decide) rfl rfl ?_
        refine xs_bipush (v := 40) d121_31 (by decide) ?_
        refine xe_istore (v := (40 : Int32)) (ls2 := [(0, xr 11 (some 0)), (1, xi v1), (2, xi v2), (3, xi (0 : Int32)), (4, xi (-2 : Int32)), (5, xi (40 : Int32))]) d121_33 mx121 (by decide) rfl rfl ?_
        exact f_B_took_l35_ok hD hf K0
noncomputable def f_B_took (v1 : Int32) (v2 : Int32) (h : xH) : Option (Int32 × xH) := f_B_took_e v1 v2 h
theorem f_B_took_ok {g : xG} {l : Launch} {d : Nat} {v1 : Int32} {v2 : Int32} {h : xH} {r : Int32} {h1 : xH} (hD : 6 ≤ d) (hf : f_B_took v1 v2 h = some (r, h1)) : xC g l d 121 [xr 11 (some 0), xi v1, xi v2] h (some (xi r)) h1 :=
  xC_of2 (by decide) mx121 (Nat.le_of_ble_eq_true rfl) (f_B_took_e_ok hD hf (fun _ _ e => by cases e; exact ⟨rfl, rfl⟩))
theorem d122_0 : decode (xcode 122) 0 = .ok (.aload_n 0, 1) := by decide +kernel
theorem d122_1 : decode (xcode 122) 1 = .ok (.getfield 55, 3) := by decide +kernel
theorem d122_4 : decode (xcode 122) 4 = .ok (.getfield 114, 3) := by decide +kernel
theorem d122_7 : decode (xcode 122) 7 = .ok (.getfield 173, 3) := by decide +kernel
theorem d122_10 : decode (xcode 122) 10 = .ok (.ifCond .eq 12, 3) := by decide +kernel
theorem d122_13 : decode (xcode 122) 13 = .ok (.iload_n 1, 1) := by decide +kernel
theorem d122_14 : decode (xcode 122) 14 = .ok (.ifCond .lt 8, 3) := by decide +kernel
theorem d122_17 : decode (xcode 122) 17 = .ok (.iload_n 1, 1) := by decide +kernel
theorem d122_18 : decode (xcode 122) 18 = .ok (.iconst 1, 1) := by decide +kernel
theorem d122_19 : decode (xcode 122) 19 = .ok (.if_icmp .le 6, 3) := by decide +kernel
theorem d122_22 : decode (xcode 122) 22 = .ok (.bipush (-3), 2) := by decide +kernel
theorem d122_24 : decode (xcode 122) 24 = .ok (.ireturn, 1) := by decide +kernel
theorem d122_25 : decode (xcode 122) 25 = .ok (.iconst 0, 1) := by decide +kernel
theorem d122_26 : decode (xcode 122) 26 = .ok (.istore_n 2, 1) := by decide +kernel
theorem d122_27 : decode (xcode 122) 27 = .ok (.bipush (-2), 2) := by decide +kernel
theorem d122_29 : decode (xcode 122) 29 = .ok (.istore_n 3, 1) := by decide +kernel
theorem d122_30 : decode (xcode 122) 30 = .ok (.aload_n 0, 1) := by decide +kernel
theorem d122_31 : decode (xcode 122) 31 = .ok (.getfield 48, 3) := by decide +kernel
theorem d122_34 : decode (xcode 122) 34 = .ok (.iconst 1, 1) := by decide +kernel
theorem d122_35 : decode (xcode 122) 35 = .ok (.isub, 1) := by decide +kernel
theorem d122_36 : decode (xcode 122) 36 = .ok (.istore 4, 2) := by decide +kernel
theorem d122_38 : decode (xcode 122) 38 = .ok (.iload 4, 2) := by decide +kernel
theorem d122_40 : decode (xcode 122) 40 = .ok (.iconst (-1), 1) := by decide +kernel
theorem d122_41 : decode (xcode 122) 41 = .ok (.if_icmp .lt 28, 3) := by decide +kernel
theorem d122_44 : decode (xcode 122) 44 = .ok (.aload_n 0, 1) := by decide +kernel
theorem d122_45 : decode (xcode 122) 45 = .ok (.iload 4, 2) := by decide +kernel
theorem d122_47 : decode (xcode 122) 47 = .ok (.invokevirtual 313, 3) := by decide +kernel
theorem d122_50 : decode (xcode 122) 50 = .ok (.aload_n 0, 1) := by decide +kernel
theorem d122_51 : decode (xcode 122) 51 = .ok (.invokevirtual 316, 3) := by decide +kernel
theorem d122_54 : decode (xcode 122) 54 = .ok (.ifCond .eq 9, 3) := by decide +kernel
theorem d122_57 : decode (xcode 122) 57 = .ok (.iinc 2 1, 3) := by decide +kernel
theorem d122_60 : decode (xcode 122) 60 = .ok (.iload 4, 2) := by decide +kernel
theorem d122_62 : decode (xcode 122) 62 = .ok (.istore_n 3, 1) := by decide +kernel
theorem d122_63 : decode (xcode 122) 63 = .ok (.iinc 4 (-1), 3) := by decide +kernel
theorem d122_66 : decode (xcode 122) 66 = .ok (.goto (-28), 3) := by decide +kernel
theorem d122_69 : decode (xcode 122) 69 = .ok (.iload_n 1, 1) := by decide +kernel
theorem d122_70 : decode (xcode 122) 70 = .ok (.ifCond .ne 7, 3) := by decide +kernel
theorem d122_73 : decode (xcode 122) 73 = .ok (.iload_n 2, 1) := by decide +kernel
theorem d122_74 : decode (xcode 122) 74 = .ok (.goto 4, 3) := by decide +kernel
theorem d122_77 : decode (xcode 122) 77 = .ok (.iload_n 3, 1) := by decide +kernel
theorem d122_78 : decode (xcode 122) 78 = .ok (.ireturn, 1) := by decide +kernel
noncomputable def f_B_ruled_b69 (v1 : Int32) (v2 : Int32) (v3 : Int32) (h : xH) : Option (Int32 × xH) :=
  if v1 = (0 : Int32) then (
  some ((v2, h))) else (
  some ((v3, h)))
set_option maxHeartbeats 4000000 in
set_option maxRecDepth 100000 in
theorem f_B_ruled_b69_ok {g : xG} {l : Launch} {d : Nat} {v1 : Int32} {v2 : Int32} {v3 : Int32} {h : xH} {o : (Int32 × xH)} {R : Option xV} {H' : xH} (hD : 6 ≤ d) (hf : f_B_ruled_b69 v1 v2 v3 h = some o) (K0 : ∀ (a : Int32) (h1 : xH), o = (a, h1) → R = some (xi a) ∧ H' = h1) : xEv g l d 122 69 [(1, xi v1), (2, xi v2), (3, xi v3)] [] h R H' := by
  unfold f_B_ruled_b69 at hf
  refine xs_iload_n d122_69 rfl ?_
  rcases lk_if hf with ⟨hc6, hf⟩ | ⟨hc6, hf⟩
  · refine xs_if_ne (tgt := 77) d122_70 (by decide) (fun _ => ?_) (fun hn => absurd hc6 hn)
    refine xs_iload_n d122_73 rfl ?_
    refine xs_goto (tgt := 78) d122_74 (by decide) ?_
    obtain ⟨eR, eH⟩ := K0 _ _ (Option.some.inj hf).symm
    subst eR; subst eH
    exact xs_iret d122_78 rt122
  · refine xs_if_ne (tgt := 77) d122_70 (by decide) (fun hp => absurd hp hc6) (fun _ => ?_)
    refine xs_iload_n d122_77 rfl ?_
    obtain ⟨eR, eH⟩ := K0 _ _ (Option.some.inj hf).symm
    subst eR; subst eH
    exact xs_iret d122_78 rt122
noncomputable def f_B_ruled_b63 (v1 : Int32) (v2 : Int32) (v3 : Int32) (v4 : Int32) (h : xH) : Option ((Int32 × Int32 × Int32 × xH) ⊕ (Int32 × xH)) :=
  xlet (v4 + (-1 : Int32)) fun v4_14 =>
  some (Sum.inl (v2, v3, v4_14, h))
set_option maxHeartbeats 4000000 in
set_option maxRecDepth 100000 in
theorem f_B_ruled_b63_ok {g : xG} {l : Launch} {d : Nat} {v1 : Int32} {v2 : Int32} {v3 : Int32} {v4 : Int32} {h : xH} {o : ((Int32 × Int32 × Int32 × xH) ⊕ (Int32 × xH))} {R : Option xV} {H' : xH} (hD : 6 ≤ d) (hf : f_B_ruled_b63 v1 v2 v3 v4 h = some o) (K1 : ∀ (w2 : Int32) (w3 : Int32) (w4 : Int32) (h1 : xH), o = Sum.inl (w2, w3, w4, h1) → xEv g l d 122 38 [(0, xr 11 (some 0)), (1, xi v1), (2, xi w2), (3, xi w3), (4, xi w4)] [] h1 R H') (K0 : ∀ (a : Int32) (h1 : xH), o = Sum.inr ((a, h1)) → R = some (xi a) ∧ H' = h1) : xEv g l d 122 63 [(0, xr 11 (some 0)), (1, xi v1), (2, xi v2), (3, xi v3), (4, xi v4)] [] h R H' := by
  unfold f_B_ruled_b63 at hf
  obtain ⟨v4_14, ev4_14, hf⟩ := lk_let hf
  refine xe_iinc (v := v4_14) (b := -1) (ls2 := [(0, xr 11 (some 0)), (1, xi v1), (2, xi v2), (3, xi v3), (4, xi v4_14)]) d122_63 mx122 (by decide) rfl (by decide) ev4_14 rfl ?_
  refine xs_goto (tgt := 38) d122_66 (by decide) ?_
  exact K1 _ _ _ _ (Option.some.inj hf).symm
noncomputable def f_B_ruled_s38 (v1 : Int32) (v2 : Int32) (v3 : Int32) (v4 : Int32) (h : xH) : Option ((Int32 × Int32 × Int32 × xH) ⊕ (Int32 × xH)) :=
  if v4 < (-1 : Int32) then (
  xup (f_B_ruled_b69 v1 v2 v3 h)) else (
  (f_B_startFromBegin v4 h).bind fun h9 =>
  (f_B_allNotesAreSo h9).bind fun q12 =>
  if q12.1 = (0 : Int32) then (
  f_B_ruled_b63 v1 v2 v3 v4 q12.2) else (
  xlet (v2 + (1 : Int32)) fun v2_15 =>
  f_B_ruled_b63 v1 v2_15 v4 v4 q12.2))
set_option maxHeartbeats 4000000 in
set_option maxRecDepth 100000 in
theorem f_B_ruled_s38_ok {g : xG} {l : Launch} {d : Nat} {v1 : Int32} {v2 : Int32} {v3 : Int32} {v4 : Int32} {h : xH} {o : ((Int32 × Int32 × Int32 × xH) ⊕ (Int32 × xH))} {R : Option xV} {H' : xH} (hD : 6 ≤ d) (hf : f_B_ruled_s38 v1 v2 v3 v4 h = some o) (K1 : ∀ (w2 : Int32) (w3 : Int32) (w4 : Int32) (h1 : xH), o = Sum.inl (w2, w3, w4, h1) → xEv g l d 122 38 [(0, xr 11 (some 0)), (1, xi v1), (2, xi w2), (3, xi w3), (4, xi w4)] [] h1 R H') (K0 : ∀ (a : Int32) (h1 : xH), o = Sum.inr ((a, h1)) → R = some (xi a) ∧ H' = h1) : xEv g l d 122 38 [(0, xr 11 (some 0)), (1, xi v1), (2, xi v2), (3, xi v3), (4, xi v4)] [] h R H' := by
  unfold f_B_ruled_s38 at hf
  refine xs_iload d122_38 rfl ?_
  refine xs_iconst (v := -1) d122_40 (by decide) ?_
  rcases lk_if hf with ⟨hc5, hf⟩ | ⟨hc5, hf⟩
  · refine xs_icmp_lt (tgt := 69) d122_41 (by decide) (fun _ => ?_) (fun hn => absurd hc5 hn)
    refine xs_pick [1, 2, 3] rfl ?_
    obtain ⟨x0, hf, ex0⟩ := lk_up hf
    exact f_B_ruled_b69_ok hD hf (fun u0 u1 e => K0 u0 u1 (ex0.trans (congrArg Sum.inr e)))
  · refine xs_icmp_lt (tgt := 69) d122_41 (by decide) (fun hp => absurd hp hc5) (fun _ => ?_)
    refine xs_aload_n d122_44 rfl ?_
    refine xs_iload d122_45 rfl ?_
    obtain ⟨h9, hc8, hf⟩ := lk_b hf
    refine xe_callv0 (as := [xi v4]) (st := []) (h2 := h9) (d2 := d - 1) d122_47 ky122 ml155 st132 (by decide) cn132 rfl na132 (Nat.le_of_ble_eq_true rfl) (by omega) (f_B_startFromBegin_ok (by omega) hc8) ?_
    refine xs_aload_n d122_50 rfl ?_
    obtain ⟨q12, hc11, hf⟩ := lk_b hf
    refine xe_callv1 (as := []) (st := []) (h2 := q12.2) (d2 := d - 1) d122_51 ky122 ml158 st135 (by decide) cn135 rfl na135 (Nat.le_of_ble_eq_true rfl) (by omega) (f_B_allNotesAreSo_ok (by omega) hc11) ?_
    rcases lk_if hf with ⟨hc13, hf⟩ | ⟨hc13, hf⟩
    · refine xs_if_eq (tgt := 63) d122_54 (by decide) (fun _ => ?_) (fun hn => absurd hc13 hn)
      exact f_B_ruled_b63_ok hD hf K1 K0
    · refine xs_if_eq (tgt := 63) d122_54 (by decide) (fun hp => absurd hp hc13) (fun _ => ?_)
      obtain ⟨v2_15, ev2_15, hf⟩ := lk_let hf
      refine xe_iinc (v := v2_15) (b := 1) (ls2 := [(0, xr 11 (some 0)), (1, xi v1), (2, xi v2_15), (3, xi v3), (4, xi v4)]) d122_57 mx122 (by decide) rfl (by decide) ev2_15 rfl ?_
      refine xs_iload d122_60 rfl ?_
      refine xe_istore_n (v := v4) (ls2 := [(0, xr 11 (some 0)), (1, xi v1), (2, xi v2_15), (3, xi v4), (4, xi v4)]) d122_62 mx122 (by decide) rfl rfl ?_
      exact f_B_ruled_b63_ok hD hf K1 K0
noncomputable def f_B_ruled_l38 (v1 : Int32) (v2 : Int32) (v3 : Int32) (v4 : Int32) (h : xH) : Option (Int32 × xH) :=
  whl (fun s => f_B_ruled_s38 v1 s.1 s.2.1 s.2.2.1 s.2.2.2) (v2, v3, v4, h)
theorem f_B_ruled_l38_ok {g : xG} {l : Launch} {d : Nat} {v1 : Int32} {v2 : Int32} {v3 : Int32} {v4 : Int32} {h : xH} {o : (Int32 × xH)} {R : Option xV} {H' : xH} (hD : 6 ≤ d) (hf : f_B_ruled_l38 v1 v2 v3 v4 h = some o) (K0 : ∀ (a : Int32) (h1 : xH), o = (a, h1) → R = some (xi a) ∧ H' = h1) : xEv g l d 122 38 [(0, xr 11 (some 0)), (1, xi v1), (2, xi v2), (3, xi v3), (4, xi v4)] [] h R H' := by
  obtain ⟨n, hn⟩ := whl_iff.mp hf
  clear hf
  induction n generalizing v2 v3 v4 h with
  | zero => cases hn
  | succ n ih =>
    obtain ⟨o2, hs, hn⟩ := lk_b (show (f_B_ruled_s38 v1 v2 v3 v4 h).bind (fun o => Sum.elim (itn _ n) some o) = some o from hn)
    exact f_B_ruled_s38_ok hD hs (fun u0 u1 u2 u3 e => ih (by rw [e] at hn; exact hn)) (fun u0 u1 e => K0 u0 u1 (by rw [e] at hn; exact (Option.some.inj hn).symm))
noncomputable def f_B_ruled_e (v1 : Int32) (h : xH) : Option (Int32 × xH) :=
  if (h.1 8 0 0) = (0 : Int32) then (
  some (((-3 : Int32), h))) else (
  if v1 < (0 : Int32) then (
  some (((-3 : Int32), h))) else (
  if v1 ≤ (1 : Int32) then (
  xlet ((h.1 11 5 0) - (1 : Int32)) fun v4_4 =>
  f_B_ruled_l38 v1 (0 : Int32) (-2 : Int32) v4_4 h) else (
  some (((-3 : Int32), h)))))
set_option maxHeartbeats 4000000 in
set_option maxRecDepth 100000 in
theorem f_B_ruled_e_ok {g : xG} {l : Launch} {d : Nat} {v1 : Int32} {h : xH} {o : (Int32 × xH)} {R : Option xV} {H' : xH} (hD : 6 ≤ d) (hf : f_B_ruled_e v1 h = some o) (K0 : ∀ (a : Int32) (h1 : xH), o = (a, h1) → R = some (xi a) ∧ H' = h1) : xEv g l d 122 0 [(0, xr 11 (some 0)), (1, xi v1)] [] h R H' := by
  unfold f_B_ruled_e at hf
  refine xs_aload_n d122_0 rfl ?_
  refine xe_getc (j := 0) d122_1 ky122 fl153 fk11_6 rfl ?_
  refine xe_getc (j := 0) d122_4 ky122 fl96 fk4_0 rfl ?_
  refine xe_geti d122_7 ky122 fl19 fk8_0 ?_
  rcases lk_if hf with ⟨hc1, hf⟩ | ⟨hc1, hf⟩
  · refine xs_if_eq (tgt := 22) d122_10 (by decide) (fun _ => ?_) (fun hn => absurd hc1 hn)
    refine xs_bipush (v := -3) d122_22 (by decide) ?_
    obtain ⟨eR, eH⟩ := K0 _ _ (Option.some.inj hf).symm
    subst eR; subst eH
    exact xs_iret d122_24 rt122
  · refine xs_if_eq (tgt := 22) d122_10 (by decide) (fun hp => absurd hp hc1) (fun _ => ?_)
    refine xs_iload_n d122_13 rfl ?_
    rcases lk_if hf with ⟨hc2, hf⟩ | ⟨hc2, hf⟩
    · refine xs_if_lt (tgt := 22) d122_14 (by decide) (fun _ => ?_) (fun hn => absurd hc2 hn)
      refine xs_bipush (v := -3) d122_22 (by decide) ?_
      obtain ⟨eR, eH⟩ := K0 _ _ (Option.some.inj hf).symm
      subst eR; subst eH
      exact xs_iret d122_24 rt122
    · refine xs_if_lt (tgt := 22) d122_14 (by decide) (fun hp => absurd hp hc2) (fun _ => ?_)
      refine xs_iload_n d122_17 rfl ?_
      refine xs_iconst (v := 1) d122_18 (by decide) ?_
      rcases lk_if hf with ⟨hc3, hf⟩ | ⟨hc3, hf⟩
      · refine xs_icmp_le (tgt := 25) d122_19 (by decide) (fun _ => ?_) (fun hn => absurd hc3 hn)
        refine xs_iconst (v := 0) d122_25 (by decide) ?_
        refine xe_istore_n (v := (0 : Int32)) (ls2 := [(0, xr 11 (some 0)), (1, xi v1), (2, xi (0 : Int32))]) d122_26 mx122 (by decide) rfl rfl ?_
        refine xs_bipush (v := -2) d122_27 (by decide) ?_
        refine xe_istore_n (v := (-2 : Int32)) (ls2 := [(0, xr 11 (some 0)), (1, xi v1), (2, xi (0 : Int32)), (3, xi (-2 : Int32))]) d122_29 mx122 (by decide) rfl rfl ?_
        refine xs_aload_n d122_30 rfl ?_
        refine xe_geti d122_31 ky122 fl152 fk11_5 ?_
        refine xs_iconst (v := 1) d122_34 (by decide) ?_
        refine xs_isub d122_35 ?_
        obtain ⟨v4_4, ev4_4, hf⟩ := lk_let hf
        refine xe_istore (v := v4_4) (ls2 := [(0, xr 11 (some 0)), (1, xi v1), (2, xi (0 : Int32)), (3, xi (-2 : Int32)), (4, xi v4_4)]) d122_36 mx122 (by decide) ev4_4 rfl ?_
        exact f_B_ruled_l38_ok hD hf K0
      · refine xs_icmp_le (tgt := 25) d122_19 (by decide) (fun hp => absurd hp hc3) (fun _ => ?_)
        refine xs_bipush (v := -3) d122_22 (by decide) ?_
        obtain ⟨eR, eH⟩ := K0 _ _ (Option.some.inj hf).symm
        subst eR; subst eH
        exact xs_iret d122_24 rt122
noncomputable def f_B_ruled (v1 : Int32) (h : xH) : Option (Int32 × xH) := f_B_ruled_e v1 h
theorem f_B_ruled_ok {g : xG} {l : Launch} {d : Nat} {v1 : Int32} {h : xH} {r : Int32} {h1 : xH} (hD : 6 ≤ d) (hf : f_B_ruled v1 h = some (r, h1)) : xC g l d 122 [xr 11 (some 0), xi v1] h (some (xi r)) h1 :=
  xC_of2 (by decide) mx122 (Nat.le_of_ble_eq_true rfl) (f_B_ruled_e_ok hD hf (fun _ _ e => by cases e; exact ⟨rfl, rfl⟩))
theorem d138_0 : decode (xcode 138) 0 = .ok (.iconst 0, 1) := by decide +kernel
theorem d138_1 : decode (xcode 138) 1 = .ok (.istore_n 3, 1) := by decide +kernel
theorem d138_2 : decode (xcode 138) 2 = .ok (.iconst 0, 1) := by decide +kernel
theorem d138_3 : decode (xcode 138) 3 = .ok (.istore 4, 2) := by decide +kernel
theorem d138_5 : decode (xcode 138) 5 = .ok (.iload 4, 2) := by decide +kernel
theorem d138_7 : decode (xcode 138) 7 = .ok (.iload_n 1, 1) := by decide +kernel
theorem d138_8 : decode (xcode 138) 8 = .ok (.if_icmp .ge 78, 3) := by decide +kernel
theorem d138_11 : decode (xcode 138) 11 = .ok (.iload 4, 2) := by decide +kernel
theorem d138_13 : decode (xcode 138) 13 = .ok (.bipush 6, 2) := by decide +kernel
theorem d138_15 : decode (xcode 138) 15 = .ok (.if_icmp .gt 71, 3) := by decide +kernel
theorem d138_18 : decode (xcode 138) 18 = .ok (.iconst 0, 1) := by decide +kernel
theorem d138_19 : decode (xcode 138) 19 = .ok (.istore 5, 2) := by decide +kernel
theorem d138_21 : decode (xcode 138) 21 = .ok (.iconst 0, 1) := by decide +kernel
theorem d138_22 : decode (xcode 138) 22 = .ok (.istore 6, 2) := by decide +kernel
theorem d138_24 : decode (xcode 138) 24 = .ok (.iload 6, 2) := by decide +kernel
theorem d138_26 : decode (xcode 138) 26 = .ok (.iload_n 1, 1) := by decide +kernel
theorem d138_27 : decode (xcode 138) 27 = .ok (.if_icmp .ge 46, 3) := by decide +kernel
theorem d138_30 : decode (xcode 138) 30 = .ok (.iload 6, 2) := by decide +kernel
theorem d138_32 : decode (xcode 138) 32 = .ok (.bipush 6, 2) := by decide +kernel
theorem d138_34 : decode (xcode 138) 34 = .ok (.if_icmp .gt 39, 3) := by decide +kernel
theorem d138_37 : decode (xcode 138) 37 = .ok (.aload_n 0, 1) := by decide +kernel
theorem d138_38 : decode (xcode 138) 38 = .ok (.getfield 95, 3) := by decide +kernel
theorem d138_41 : decode (xcode 138) 41 = .ok (.iload 4, 2) := by decide +kernel
theorem d138_43 : decode (xcode 138) 43 = .ok (.bipush 61, 2) := by decide +kernel
theorem d138_45 : decode (xcode 138) 45 = .ok (.imul, 1) := by decide +kernel
theorem d138_46 : decode (xcode 138) 46 = .ok (.iload_n 2, 1) := by decide +kernel
theorem d138_47 : decode (xcode 138) 47 = .ok (.iadd, 1) := by decide +kernel
theorem d138_48 : decode (xcode 138) 48 = .ok (.iaload, 1) := by decide +kernel
theorem d138_49 : decode (xcode 138) 49 = .ok (.aload_n 0, 1) := by decide +kernel
theorem d138_50 : decode (xcode 138) 50 = .ok (.getfield 95, 3) := by decide +kernel
theorem d138_53 : decode (xcode 138) 53 = .ok (.iload 6, 2) := by decide +kernel
theorem d138_55 : decode (xcode 138) 55 = .ok (.bipush 61, 2) := by decide +kernel
theorem d138_57 : decode (xcode 138) 57 = .ok (.imul, 1) := by decide +kernel
theorem d138_58 : decode (xcode 138) 58 = .ok (.iload_n 2, 1) := by decide +kernel
theorem d138_59 : decode (xcode 138) 59 = .ok (.iadd, 1) := by decide +kernel
theorem d138_60 : decode (xcode 138) 60 = .ok (.iaload, 1) := by decide +kernel
theorem d138_61 : decode (xcode 138) 61 = .ok (.if_icmp .ne 6, 3) := by decide +kernel
theorem d138_64 : decode (xcode 138) 64 = .ok (.iinc 5 1, 3) := by decide +kernel
theorem d138_67 : decode (xcode 138) 67 = .ok (.iinc 6 1, 3) := by decide +kernel
theorem d138_70 : decode (xcode 138) 70 = .ok (.goto (-46), 3) := by decide +kernel
theorem d138_73 : decode (xcode 138) 73 = .ok (.iload_n 3, 1) := by decide +kernel
theorem d138_74 : decode (xcode 138) 74 = .ok (.iload 5, 2) := by decide +kernel
theorem d138_76 : decode (xcode 138) 76 = .ok (.invokestatic 365, 3) := by decide +kernel
theorem d138_79 : decode (xcode 138) 79 = .ok (.istore_n 3, 1) := by decide +kernel
theorem d138_80 : decode (xcode 138) 80 = .ok (.iinc 4 1, 3) := by decide +kernel
theorem d138_83 : decode (xcode 138) 83 = .ok (.goto (-78), 3) := by decide +kernel
theorem d138_86 : decode (xcode 138) 86 = .ok (.iload_n 3, 1) := by decide +kernel
theorem d138_87 : decode (xcode 138) 87 = .ok (.ireturn, 1) := by decide +kernel
noncomputable def f_B_mostAlike_b73 (v1 : Int32) (v2 : Int32) (v3 : Int32) (v4 : Int32) (v5 : Int32) (h : xH) : Option ((Int32 × Int32) ⊕ Int32) :=
  (f_Math_max v3 v5 h).bind fun r4 =>
  xlet (v4 + (1 : Int32)) fun v4_6 =>
  some (Sum.inl (r4, v4_6))
set_option maxHeartbeats 4000000 in
set_option maxRecDepth 100000 in
theorem f_B_mostAlike_b73_ok {g : xG} {l : Launch} {d : Nat} {v1 : Int32} {v2 : Int32} {v3 : Int32} {v4 : Int32} {v5 : Int32} {h : xH} {o : ((Int32 × Int32) ⊕ Int32)} {R : Option xV} (hD : 1 ≤ d) (hf : f_B_mostAlike_b73 v1 v2 v3 v4 v5 h = some o) (K1 : ∀ (w3 : Int32) (w4 : Int32), o = Sum.inl (w3, w4) → xEv g l d 138 5 [(0, xr 11 (some 0)), (1, xi v1), (2, xi v2), (3, xi w3), (4, xi w4)] [] h R h) (K0 : ∀ (a : Int32), o = Sum.inr (a) → R = some (xi a)) : xEv g l d 138 73 [(0, xr 11 (some 0)), (1, xi v1), (2, xi v2), (3, xi v3), (4, xi v4), (5, xi v5)] [] h R h := by
  unfold f_B_mostAlike_b73 at hf
  refine xs_iload_n d138_73 rfl ?_
  refine xs_iload d138_74 rfl ?_
  obtain ⟨r4, hc5, hf⟩ := lk_b hf
  refine xe_calls1 (as := [xi v3, xi v5]) (st := []) (h2 := h) (d2 := d - 1) d138_76 ky138 ml167 st256 rfl na256 (Nat.le_of_ble_eq_true rfl) (by omega) (f_Math_max_ok (by omega) hc5) ?_
  refine xe_istore_n (v := r4) (ls2 := [(0, xr 11 (some 0)), (1, xi v1), (2, xi v2), (3, xi r4), (4, xi v4), (5, xi v5)]) d138_79 mx138 (by decide) rfl rfl ?_
  obtain ⟨v4_6, ev4_6, hf⟩ := lk_let hf
  refine xe_iinc (v := v4_6) (b := 1) (ls2 := [(0, xr 11 (some 0)), (1, xi v1), (2, xi v2), (3, xi r4), (4, xi v4_6), (5, xi v5)]) d138_80 mx138 (by decide) rfl (by decide) ev4_6 rfl ?_
  refine xs_goto (tgt := 5) d138_83 (by decide) ?_
  refine xs_pick [0, 1, 2, 3, 4] rfl ?_
  exact K1 _ _ (Option.some.inj hf).symm
noncomputable def f_B_mostAlike_b67 (v1 : Int32) (v2 : Int32) (v3 : Int32) (v4 : Int32) (v5 : Int32) (v6 : Int32) (h : xH) : Option ((Int32 × Int32) ⊕ ((Int32 × Int32) ⊕ Int32)) :=
  xlet (v6 + (1 : Int32)) fun v6_12 =>
  some (Sum.inl (v5, v6_12))
set_option maxHeartbeats 4000000 in
set_option maxRecDepth 100000 in
theorem f_B_mostAlike_b67_ok {g : xG} {l : Launch} {d : Nat} {v1 : Int32} {v2 : Int32} {v3 : Int32} {v4 : Int32} {v5 : Int32} {v6 : Int32} {h : xH} {o : ((Int32 × Int32) ⊕ ((Int32 × Int32) ⊕ Int32))} {R : Option xV} (hD : 1 ≤ d) (hf : f_B_mostAlike_b67 v1 v2 v3 v4 v5 v6 h = some o) (K1 : ∀ (w3 : Int32) (w4 : Int32), o = Sum.inr (Sum.inl (w3, w4)) → xEv g l d 138 5 [(0, xr 11 (some 0)), (1, xi v1), (2, xi v2), (3, xi w3), (4, xi w4)] [] h R h) (K2 : ∀ (w5 : Int32) (w6 : Int32), o = Sum.inl (w5, w6) → xEv g l d 138 24 [(0, xr 11 (some 0)), (1, xi v1), (2, xi v2), (3, xi v3), (4, xi v4), (5, xi w5), (6, xi w6)] [] h R h) (K0 : ∀ (a : Int32), o = Sum.inr (Sum.inr (a)) → R = some (xi a)) : xEv g l d 138 67 [(0, xr 11 (some 0)), (1, xi v1), (2, xi v2), (3, xi v3), (4, xi v4), (5, xi v5), (6, xi v6)] [] h R h := by
  unfold f_B_mostAlike_b67 at hf
  obtain ⟨v6_12, ev6_12, hf⟩ := lk_let hf
  refine xe_iinc (v := v6_12) (b := 1) (ls2 := [(0, xr 11 (some 0)), (1, xi v1), (2, xi v2), (3, xi v3), (4, xi v4), (5, xi v5), (6, xi v6_12)]) d138_67 mx138 (by decide) rfl (by decide) ev6_12 rfl ?_
  refine xs_goto (tgt := 24) d138_70 (by decide) ?_
  exact K2 _ _ (Option.some.inj hf).symm
noncomputable def f_B_mostAlike_s24 (v1 : Int32) (v2 : Int32) (v3 : Int32) (v4 : Int32) (v5 : Int32) (v6 : Int32) (h : xH) : Option ((Int32 × Int32) ⊕ ((Int32 × Int32) ⊕ Int32)) :=
  if v1 ≤ v6 then (
  xup (f_B_mostAlike_b73 v1 v2 v3 v4 v5 h)) else (
  if (6 : Int32) < v6 then (
  xup (f_B_mostAlike_b73 v1 v2 v3 v4 v5 h)) else (
  if xib ((v4 * (61 : Int32)) + v2) 427 then (
  if xib ((v6 * (61 : Int32)) + v2) 427 then (
  if (h.2.2.2.1 46 0 ((v4 * (61 : Int32)) + v2).toNatClampNeg) = (h.2.2.2.1 46 0 ((v6 * (61 : Int32)) + v2).toNatClampNeg) then (
  xlet (v5 + (1 : Int32)) fun v5_11 =>
  f_B_mostAlike_b67 v1 v2 v3 v4 v5_11 v6 h) else (
  f_B_mostAlike_b67 v1 v2 v3 v4 v5 v6 h)) else none) else none))
set_option maxHeartbeats 4000000 in
set_option maxRecDepth 100000 in
theorem f_B_mostAlike_s24_ok {g : xG} {l : Launch} {d : Nat} {v1 : Int32} {v2 : Int32} {v3 : Int32} {v4 : Int32} {v5 : Int32} {v6 : Int32} {h : xH} {o : ((Int32 × Int32) ⊕ ((Int32 × Int32) ⊕ Int32))} {R : Option xV} (hD : 1 ≤ d) (hf : f_B_mostAlike_s24 v1 v2 v3 v4 v5 v6 h = some o) (K1 : ∀ (w3 : Int32) (w4 : Int32), o = Sum.inr (Sum.inl (w3, w4)) → xEv g l d 138 5 [(0, xr 11 (some 0)), (1, xi v1), (2, xi v2), (3, xi w3), (4, xi w4)] [] h R h) (K2 : ∀ (w5 : Int32) (w6 : Int32), o = Sum.inl (w5, w6) → xEv g l d 138 24 [(0, xr 11 (some 0)), (1, xi v1), (2, xi v2), (3, xi v3), (4, xi v4), (5, xi w5), (6, xi w6)] [] h R h) (K0 : ∀ (a : Int32), o = Sum.inr (Sum.inr (a)) → R = some (xi a)) : xEv g l d 138 24 [(0, xr 11 (some 0)), (1, xi v1), (2, xi v2), (3, xi v3), (4, xi v4), (5, xi v5), (6, xi v6)] [] h R h := by
  unfold f_B_mostAlike_s24 at hf
  refine xs_iload d138_24 rfl ?_
  refine xs_iload_n d138_26 rfl ?_
  rcases lk_if hf with ⟨hc3, hf⟩ | ⟨hc3, hf⟩
  · refine xs_icmp_ge (tgt := 73) d138_27 (by decide) (fun _ => ?_) (fun hn => absurd hc3 hn)
    refine xs_pick [0, 1, 2, 3, 4, 5] rfl ?_
    obtain ⟨x0, hf, ex0⟩ := lk_up hf
    exact f_B_mostAlike_b73_ok hD hf (fun u0 u1 e => K1 u0 u1 (ex0.trans (congrArg Sum.inr e))) (fun u0 e => K0 u0 (ex0.trans (congrArg Sum.inr e)))
  · refine xs_icmp_ge (tgt := 73) d138_27 (by decide) (fun hp => absurd hp hc3) (fun _ => ?_)
    refine xs_iload d138_30 rfl ?_
    refine xs_bipush (v := 6) d138_32 (by decide) ?_
    rcases lk_if hf with ⟨hc7, hf⟩ | ⟨hc7, hf⟩
    · refine xs_icmp_gt (tgt := 73) d138_34 (by decide) (fun _ => ?_) (fun hn => absurd hc7 hn)
      refine xs_pick [0, 1, 2, 3, 4, 5] rfl ?_
      obtain ⟨x0, hf, ex0⟩ := lk_up hf
      exact f_B_mostAlike_b73_ok hD hf (fun u0 u1 e => K1 u0 u1 (ex0.trans (congrArg Sum.inr e))) (fun u0 e => K0 u0 (ex0.trans (congrArg Sum.inr e)))
    · refine xs_icmp_gt (tgt := 73) d138_34 (by decide) (fun hp => absurd hp hc7) (fun _ => ?_)
      refine xs_aload_n d138_37 rfl ?_
      refine xe_getc (j := 0) d138_38 ky138 fl160 fk11_13 rfl ?_
      refine xs_iload d138_41 rfl ?_
      refine xs_bipush (v := 61) d138_43 (by decide) ?_
      refine xs_imul d138_45 ?_
      refine xs_iload_n d138_46 rfl ?_
      refine xs_iadd d138_47 ?_
      obtain ⟨hin8, hf⟩ := lk_g hf
      refine xe_iald d138_48 (by decide) ak46 hin8 ?_
      refine xs_aload_n d138_49 rfl ?_
      refine xe_getc (j := 0) d138_50 ky138 fl160 fk11_13 rfl ?_
      refine xs_iload d138_53 rfl ?_
      refine xs_bipush (v := 61) d138_55 (by decide) ?_
      refine xs_imul d138_57 ?_
      refine xs_iload_n d138_58 rfl ?_
      refine xs_iadd d138_59 ?_
      obtain ⟨hin9, hf⟩ := lk_g hf
      refine xe_iald d138_60 (by decide) ak46 hin9 ?_
      rcases lk_if hf with ⟨hc10, hf⟩ | ⟨hc10, hf⟩
      · refine xs_icmp_ne (tgt := 67) d138_61 (by decide) (fun _ => ?_) (fun hn => absurd hc10 hn)
        obtain ⟨v5_11, ev5_11, hf⟩ := lk_let hf
        refine xe_iinc (v := v5_11) (b := 1) (ls2 := [(0, xr 11 (some 0)), (1, xi v1), (2, xi v2), (3, xi v3), (4, xi v4), (5, xi v5_11), (6, xi v6)]) d138_64 mx138 (by decide) rfl (by decide) ev5_11 rfl ?_
        exact f_B_mostAlike_b67_ok hD hf K1 K2 K0
      · refine xs_icmp_ne (tgt := 67) d138_61 (by decide) (fun hp => absurd hp hc10) (fun _ => ?_)
        exact f_B_mostAlike_b67_ok hD hf K1 K2 K0
noncomputable def f_B_mostAlike_l24 (v1 : Int32) (v2 : Int32) (v3 : Int32) (v4 : Int32) (v5 : Int32) (v6 : Int32) (h : xH) : Option ((Int32 × Int32) ⊕ Int32) :=
  whl (fun s => f_B_mostAlike_s24 v1 v2 v3 v4 s.1 s.2 h) (v5, v6)
theorem f_B_mostAlike_l24_ok {g : xG} {l : Launch} {d : Nat} {v1 : Int32} {v2 : Int32} {v3 : Int32} {v4 : Int32} {v5 : Int32} {v6 : Int32} {h : xH} {o : ((Int32 × Int32) ⊕ Int32)} {R : Option xV} (hD : 1 ≤ d) (hf : f_B_mostAlike_l24 v1 v2 v3 v4 v5 v6 h = some o) (K1 : ∀ (w3 : Int32) (w4 : Int32), o = Sum.inl (w3, w4) → xEv g l d 138 5 [(0, xr 11 (some 0)), (1, xi v1), (2, xi v2), (3, xi w3), (4, xi w4)] [] h R h) (K0 : ∀ (a : Int32), o = Sum.inr (a) → R = some (xi a)) : xEv g l d 138 24 [(0, xr 11 (some 0)), (1, xi v1), (2, xi v2), (3, xi v3), (4, xi v4), (5, xi v5), (6, xi v6)] [] h R h := by
  obtain ⟨n, hn⟩ := whl_iff.mp hf
  clear hf
  induction n generalizing v5 v6 with
  | zero => cases hn
  | succ n ih =>
    obtain ⟨o2, hs, hn⟩ := lk_b (show (f_B_mostAlike_s24 v1 v2 v3 v4 v5 v6 h).bind (fun o => Sum.elim (itn _ n) some o) = some o from hn)
    exact f_B_mostAlike_s24_ok hD hs (fun u0 u1 e => K1 u0 u1 (by rw [e] at hn; exact (Option.some.inj hn).symm)) (fun u0 u1 e => ih (by rw [e] at hn; exact hn)) (fun u0 e => K0 u0 (by rw [e] at hn; exact (Option.some.inj hn).symm))
noncomputable def f_B_mostAlike_s5 (v1 : Int32) (v2 : Int32) (v3 : Int32) (v4 : Int32) (h : xH) : Option ((Int32 × Int32) ⊕ Int32) :=
  if v1 ≤ v4 then (
  some (Sum.inr (v3))) else (
  if (6 : Int32) < v4 then (
  some (Sum.inr (v3))) else (
  f_B_mostAlike_l24 v1 v2 v3 v4 (0 : Int32) (0 : Int32) h))
set_option maxHeartbeats 4000000 in
set_option maxRecDepth 100000 in
theorem f_B_mostAlike_s5_ok {g : xG} {l : Launch} {d : Nat} {v1 : Int32} {v2 : Int32} {v3 : Int32} {v4 : Int32} {h : xH} {o : ((Int32 × Int32) ⊕ Int32)} {R : Option xV} (hD : 1 ≤ d) (hf : f_B_mostAlike_s5 v1 v2 v3 v4 h = some o) (K1 : ∀ (w3 : Int32) (w4 : Int32), o = Sum.inl (w3, w4) → xEv g l d 138 5 [(0, xr 11 (some 0)), (1, xi v1), (2, xi v2), (3, xi w3), (4, xi w4)] [] h R h) (K0 : ∀ (a : Int32), o = Sum.inr (a) → R = some (xi a)) : xEv g l d 138 5 [(0, xr 11 (some 0)), (1, xi v1), (2, xi v2), (3, xi v3), (4, xi v4)] [] h R h := by
  unfold f_B_mostAlike_s5 at hf
  refine xs_iload d138_5 rfl ?_
  refine xs_iload_n d138_7 rfl ?_
  rcases lk_if hf with ⟨hc1, hf⟩ | ⟨hc1, hf⟩
  · refine xs_icmp_ge (tgt := 86) d138_8 (by decide) (fun _ => ?_) (fun hn => absurd hc1 hn)
    refine xs_iload_n d138_86 rfl ?_
    obtain eR := K0 _ (Option.some.inj hf).symm
    subst eR
    exact xs_iret d138_87 rt138
  · refine xs_icmp_ge (tgt := 86) d138_8 (by decide) (fun hp => absurd hp hc1) (fun _ => ?_)
    refine xs_iload d138_11 rfl ?_
    refine xs_bipush (v := 6) d138_13 (by decide) ?_
    rcases lk_if hf with ⟨hc2, hf⟩ | ⟨hc2, hf⟩
    · refine xs_icmp_gt (tgt := 86) d138_15 (by decide) (fun _ => ?_) (fun hn => absurd hc2 hn)
      refine xs_iload_n d138_86 rfl ?_
      obtain eR := K0 _ (Option.some.inj hf).symm
      subst eR
      exact xs_iret d138_87 rt138
    · refine xs_icmp_gt (tgt := 86) d138_15 (by decide) (fun hp => absurd hp hc2) (fun _ => ?_)
      refine xs_iconst (v := 0) d138_18 (by decide) ?_
      refine xe_istore (v := (0 : Int32)) (ls2 := [(0, xr 11 (some 0)), (1, xi v1), (2, xi v2), (3, xi v3), (4, xi v4), (5, xi (0 : Int32))]) d138_19 mx138 (by decide) rfl rfl ?_
      refine xs_iconst (v := 0) d138_21 (by decide) ?_
      refine xe_istore (v := (0 : Int32)) (ls2 := [(0, xr 11 (some 0)), (1, xi v1), (2, xi v2), (3, xi v3), (4, xi v4), (5, xi (0 : Int32)), (6, xi (0 : Int32))]) d138_22 mx138 (by decide) rfl rfl ?_
      exact f_B_mostAlike_l24_ok hD hf K1 K0
noncomputable def f_B_mostAlike_l5 (v1 : Int32) (v2 : Int32) (v3 : Int32) (v4 : Int32) (h : xH) : Option Int32 :=
  whl (fun s => f_B_mostAlike_s5 v1 v2 s.1 s.2 h) (v3, v4)
theorem f_B_mostAlike_l5_ok {g : xG} {l : Launch} {d : Nat} {v1 : Int32} {v2 : Int32} {v3 : Int32} {v4 : Int32} {h : xH} {o : Int32} {R : Option xV} (hD : 1 ≤ d) (hf : f_B_mostAlike_l5 v1 v2 v3 v4 h = some o) (K0 : ∀ (a : Int32), o = a → R = some (xi a)) : xEv g l d 138 5 [(0, xr 11 (some 0)), (1, xi v1), (2, xi v2), (3, xi v3), (4, xi v4)] [] h R h := by
  obtain ⟨n, hn⟩ := whl_iff.mp hf
  clear hf
  induction n generalizing v3 v4 with
  | zero => cases hn
  | succ n ih =>
    obtain ⟨o2, hs, hn⟩ := lk_b (show (f_B_mostAlike_s5 v1 v2 v3 v4 h).bind (fun o => Sum.elim (itn _ n) some o) = some o from hn)
    exact f_B_mostAlike_s5_ok hD hs (fun u0 u1 e => ih (by rw [e] at hn; exact hn)) (fun u0 e => K0 u0 (by rw [e] at hn; exact (Option.some.inj hn).symm))
noncomputable def f_B_mostAlike_e (v1 : Int32) (v2 : Int32) (h : xH) : Option Int32 :=
  f_B_mostAlike_l5 v1 v2 (0 : Int32) (0 : Int32) h
set_option maxHeartbeats 4000000 in
set_option maxRecDepth 100000 in
theorem f_B_mostAlike_e_ok {g : xG} {l : Launch} {d : Nat} {v1 : Int32} {v2 : Int32} {h : xH} {o : Int32} {R : Option xV} (hD : 1 ≤ d) (hf : f_B_mostAlike_e v1 v2 h = some o) (K0 : ∀ (a : Int32), o = a → R = some (xi a)) : xEv g l d 138 0 [(0, xr 11 (some 0)), (1, xi v1), (2, xi v2)] [] h R h := by
  unfold f_B_mostAlike_e at hf
  refine xs_iconst (v := 0) d138_0 (by decide) ?_
  refine xe_istore_n (v := (0 : Int32)) (ls2 := [(0, xr 11 (some 0)), (1, xi v1), (2, xi v2), (3, xi (0 : Int32))]) d138_1 mx138 (by decide) rfl rfl ?_
  refine xs_iconst (v := 0) d138_2 (by decide) ?_
  refine xe_istore (v := (0 : Int32)) (ls2 := [(0, xr 11 (some 0)), (1, xi v1), (2, xi v2), (3, xi (0 : Int32)), (4, xi (0 : Int32))]) d138_3 mx138 (by decide) rfl rfl ?_
  exact f_B_mostAlike_l5_ok hD hf K0
noncomputable def f_B_mostAlike (v1 : Int32) (v2 : Int32) (h : xH) : Option Int32 := f_B_mostAlike_e v1 v2 h
theorem f_B_mostAlike_ok {g : xG} {l : Launch} {d : Nat} {v1 : Int32} {v2 : Int32} {h : xH} {r : Int32} (hD : 1 ≤ d) (hf : f_B_mostAlike v1 v2 h = some r) : xC g l d 138 [xr 11 (some 0), xi v1, xi v2] h (some (xi r)) h :=
  xC_of2 (by decide) mx138 (Nat.le_of_ble_eq_true rfl) (f_B_mostAlike_e_ok hD hf (fun _ e => by rw [e]))
theorem d137_0 : decode (xcode 137) 0 = .ok (.iconst 0, 1) := by decide +kernel
theorem d137_1 : decode (xcode 137) 1 = .ok (.istore_n 2, 1) := by decide +kernel
theorem d137_2 : decode (xcode 137) 2 = .ok (.iload_n 1, 1) := by decide +kernel
theorem d137_3 : decode (xcode 137) 3 = .ok (.iconst 1, 1) := by decide +kernel
theorem d137_4 : decode (xcode 137) 4 = .ok (.iadd, 1) := by decide +kernel
theorem d137_5 : decode (xcode 137) 5 = .ok (.istore_n 3, 1) := by decide +kernel
theorem d137_6 : decode (xcode 137) 6 = .ok (.iconst 0, 1) := by decide +kernel
theorem d137_7 : decode (xcode 137) 7 = .ok (.istore 4, 2) := by decide +kernel
theorem d137_9 : decode (xcode 137) 9 = .ok (.iload 4, 2) := by decide +kernel
theorem d137_11 : decode (xcode 137) 11 = .ok (.bipush 61, 2) := by decide +kernel
theorem d137_13 : decode (xcode 137) 13 = .ok (.if_icmp .ge 30, 3) := by decide +kernel
theorem d137_16 : decode (xcode 137) 16 = .ok (.aload_n 0, 1) := by decide +kernel
theorem d137_17 : decode (xcode 137) 17 = .ok (.iload_n 1, 1) := by decide +kernel
theorem d137_18 : decode (xcode 137) 18 = .ok (.iload 4, 2) := by decide +kernel
theorem d137_20 : decode (xcode 137) 20 = .ok (.invokevirtual 326, 3) := by decide +kernel
theorem d137_23 : decode (xcode 137) 23 = .ok (.istore 5, 2) := by decide +kernel
theorem d137_25 : decode (xcode 137) 25 = .ok (.iload 5, 2) := by decide +kernel
theorem d137_27 : decode (xcode 137) 27 = .ok (.iload_n 3, 1) := by decide +kernel
theorem d137_28 : decode (xcode 137) 28 = .ok (.if_icmp .ge 9, 3) := by decide +kernel
theorem d137_31 : decode (xcode 137) 31 = .ok (.iload 5, 2) := by decide +kernel
theorem d137_33 : decode (xcode 137) 33 = .ok (.istore_n 3, 1) := by decide +kernel
theorem d137_34 : decode (xcode 137) 34 = .ok (.iload 4, 2) := by decide +kernel
theorem d137_36 : decode (xcode 137) 36 = .ok (.istore_n 2, 1) := by decide +kernel
theorem d137_37 : decode (xcode 137) 37 = .ok (.iinc 4 1, 3) := by decide +kernel
theorem d137_40 : decode (xcode 137) 40 = .ok (.goto (-31), 3) := by decide +kernel
theorem d137_43 : decode (xcode 137) 43 = .ok (.iload_n 2, 1) := by decide +kernel
theorem d137_44 : decode (xcode 137) 44 = .ok (.ireturn, 1) := by decide +kernel
noncomputable def f_B_bestStepToLook_b37 (v1 : Int32) (v2 : Int32) (v3 : Int32) (v4 : Int32) (h : xH) : Option ((Int32 × Int32 × Int32) ⊕ Int32) :=
  xlet (v4 + (1 : Int32)) fun v4_6 =>
  some (Sum.inl (v2, v3, v4_6))
set_option maxHeartbeats 4000000 in
set_option maxRecDepth 100000 in
theorem f_B_bestStepToLook_b37_ok {g : xG} {l : Launch} {d : Nat} {v1 : Int32} {v2 : Int32} {v3 : Int32} {v4 : Int32} {h : xH} {o : ((Int32 × Int32 × Int32) ⊕ Int32)} {R : Option xV} (hD : 2 ≤ d) (hf : f_B_bestStepToLook_b37 v1 v2 v3 v4 h = some o) (K1 : ∀ (w2 : Int32) (w3 : Int32) (w4 : Int32), o = Sum.inl (w2, w3, w4) → xEv g l d 137 9 [(0, xr 11 (some 0)), (1, xi v1), (2, xi w2), (3, xi w3), (4, xi w4)] [] h R h) (K0 : ∀ (a : Int32), o = Sum.inr (a) → R = some (xi a)) : xEv g l d 137 37 [(0, xr 11 (some 0)), (1, xi v1), (2, xi v2), (3, xi v3), (4, xi v4)] [] h R h := by
  unfold f_B_bestStepToLook_b37 at hf
  obtain ⟨v4_6, ev4_6, hf⟩ := lk_let hf
  refine xe_iinc (v := v4_6) (b := 1) (ls2 := [(0, xr 11 (some 0)), (1, xi v1), (2, xi v2), (3, xi v3), (4, xi v4_6)]) d137_37 mx137 (by decide) rfl (by decide) ev4_6 rfl ?_
  refine xs_goto (tgt := 9) d137_40 (by decide) ?_
  exact K1 _ _ _ (Option.some.inj hf).symm
noncomputable def f_B_bestStepToLook_s9 (v1 : Int32) (v2 : Int32) (v3 : Int32) (v4 : Int32) (h : xH) : Option ((Int32 × Int32 × Int32) ⊕ Int32) :=
  if (61 : Int32) ≤ v4 then (
  some (Sum.inr (v2))) else (
  (f_B_mostAlike v1 v4 h).bind fun r3 =>
  if v3 ≤ r3 then (
  f_B_bestStepToLook_b37 v1 v2 v3 v4 h) else (
  f_B_bestStepToLook_b37 v1 v4 r3 v4 h))
set_option maxHeartbeats 4000000 in
set_option maxRecDepth 100000 in
theorem f_B_bestStepToLook_s9_ok {g : xG} {l : Launch} {d : Nat} {v1 : Int32} {v2 : Int32} {v3 : Int32} {v4 : Int32} {h : xH} {o : ((Int32 × Int32 × Int32) ⊕ Int32)} {R : Option xV} (hD : 2 ≤ d) (hf : f_B_bestStepToLook_s9 v1 v2 v3 v4 h = some o) (K1 : ∀ (w2 : Int32) (w3 : Int32) (w4 : Int32), o = Sum.inl (w2, w3, w4) → xEv g l d 137 9 [(0, xr 11 (some 0)), (1, xi v1), (2, xi w2), (3, xi w3), (4, xi w4)] [] h R h) (K0 : ∀ (a : Int32), o = Sum.inr (a) → R = some (xi a)) : xEv g l d 137 9 [(0, xr 11 (some 0)), (1, xi v1), (2, xi v2), (3, xi v3), (4, xi v4)] [] h R h := by
  unfold f_B_bestStepToLook_s9 at hf
  refine xs_iload d137_9 rfl ?_
  refine xs_bipush (v := 61) d137_11 (by decide) ?_
  rcases lk_if hf with ⟨hc2, hf⟩ | ⟨hc2, hf⟩
  · refine xs_icmp_ge (tgt := 43) d137_13 (by decide) (fun _ => ?_) (fun hn => absurd hc2 hn)
    refine xs_iload_n d137_43 rfl ?_
    obtain eR := K0 _ (Option.some.inj hf).symm
    subst eR
    exact xs_iret d137_44 rt137
  · refine xs_icmp_ge (tgt := 43) d137_13 (by decide) (fun hp => absurd hp hc2) (fun _ => ?_)
    refine xs_aload_n d137_16 rfl ?_
    refine xs_iload_n d137_17 rfl ?_
    refine xs_iload d137_18 rfl ?_
    obtain ⟨r3, hc4, hf⟩ := lk_b hf
    refine xe_callv1 (as := [xi v1, xi v4]) (st := []) (h2 := h) (d2 := d - 1) d137_20 ky137 ml166 st138 (by decide) cn138 rfl na138 (Nat.le_of_ble_eq_true rfl) (by omega) (f_B_mostAlike_ok (by omega) hc4) ?_
    refine xe_istore (v := r3) (ls2 := [(0, xr 11 (some 0)), (1, xi v1), (2, xi v2), (3, xi v3), (4, xi v4), (5, xi r3)]) d137_23 mx137 (by decide) rfl rfl ?_
    refine xs_iload d137_25 rfl ?_
    refine xs_iload_n d137_27 rfl ?_
    rcases lk_if hf with ⟨hc5, hf⟩ | ⟨hc5, hf⟩
    · refine xs_icmp_ge (tgt := 37) d137_28 (by decide) (fun _ => ?_) (fun hn => absurd hc5 hn)
      refine xs_pick [0, 1, 2, 3, 4] rfl ?_
      exact f_B_bestStepToLook_b37_ok hD hf K1 K0
    · refine xs_icmp_ge (tgt := 37) d137_28 (by decide) (fun hp => absurd hp hc5) (fun _ => ?_)
      refine xs_iload d137_31 rfl ?_
      refine xe_istore_n (v := r3) (ls2 := [(0, xr 11 (some 0)), (1, xi v1), (2, xi v2), (3, xi r3), (4, xi v4), (5, xi r3)]) d137_33 mx137 (by decide) rfl rfl ?_
      refine xs_iload d137_34 rfl ?_
      refine xe_istore_n (v := v4) (ls2 := [(0, xr 11 (some 0)), (1, xi v1), (2, xi v4), (3, xi r3), (4, xi v4), (5, xi r3)]) d137_36 mx137 (by decide) rfl rfl ?_
      refine xs_pick [0, 1, 2, 3, 4] rfl ?_
      exact f_B_bestStepToLook_b37_ok hD hf K1 K0
noncomputable def f_B_bestStepToLook_l9 (v1 : Int32) (v2 : Int32) (v3 : Int32) (v4 : Int32) (h : xH) : Option Int32 :=
  whl (fun s => f_B_bestStepToLook_s9 v1 s.1 s.2.1 s.2.2 h) (v2, v3, v4)
theorem f_B_bestStepToLook_l9_ok {g : xG} {l : Launch} {d : Nat} {v1 : Int32} {v2 : Int32} {v3 : Int32} {v4 : Int32} {h : xH} {o : Int32} {R : Option xV} (hD : 2 ≤ d) (hf : f_B_bestStepToLook_l9 v1 v2 v3 v4 h = some o) (K0 : ∀ (a : Int32), o = a → R = some (xi a)) : xEv g l d 137 9 [(0, xr 11 (some 0)), (1, xi v1), (2, xi v2), (3, xi v3), (4, xi v4)] [] h R h := by
  obtain ⟨n, hn⟩ := whl_iff.mp hf
  clear hf
  induction n generalizing v2 v3 v4 with
  | zero => cases hn
  | succ n ih =>
    obtain ⟨o2, hs, hn⟩ := lk_b (show (f_B_bestStepToLook_s9 v1 v2 v3 v4 h).bind (fun o => Sum.elim (itn _ n) some o) = some o from hn)
    exact f_B_bestStepToLook_s9_ok hD hs (fun u0 u1 u2 e => ih (by rw [e] at hn; exact hn)) (fun u0 e => K0 u0 (by rw [e] at hn; exact (Option.some.inj hn).symm))
noncomputable def f_B_bestStepToLook_e (v1 : Int32) (h : xH) : Option Int32 :=
  xlet (v1 + (1 : Int32)) fun v3_1 =>
  f_B_bestStepToLook_l9 v1 (0 : Int32) v3_1 (0 : Int32) h
set_option maxHeartbeats 4000000 in
set_option maxRecDepth 100000 in
theorem f_B_bestStepToLook_e_ok {g : xG} {l : Launch} {d : Nat} {v1 : Int32} {h : xH} {o : Int32} {R : Option xV} (hD : 2 ≤ d) (hf : f_B_bestStepToLook_e v1 h = some o) (K0 : ∀ (a : Int32), o = a → R = some (xi a)) : xEv g l d 137 0 [(0, xr 11 (some 0)), (1, xi v1)] [] h R h := by
  unfold f_B_bestStepToLook_e at hf
  refine xs_iconst (v := 0) d137_0 (by decide) ?_
  refine xe_istore_n (v := (0 : Int32)) (ls2 := [(0, xr 11 (some 0)), (1, xi v1), (2, xi (0 : Int32))]) d137_1 mx137 (by decide) rfl rfl ?_
  refine xs_iload_n d137_2 rfl ?_
  refine xs_iconst (v := 1) d137_3 (by decide) ?_
  refine xs_iadd d137_4 ?_
  obtain ⟨v3_1, ev3_1, hf⟩ := lk_let hf
  refine xe_istore_n (v := v3_1) (ls2 := [(0, xr 11 (some 0)), (1, xi v1), (2, xi (0 : Int32)), (3, xi v3_1)]) d137_5 mx137 (by decide) ev3_1 rfl ?_
  refine xs_iconst (v := 0) d137_6 (by decide) ?_
  refine xe_istore (v := (0 : Int32)) (ls2 := [(0, xr 11 (some 0)), (1, xi v1), (2, xi (0 : Int32)), (3, xi v3_1), (4, xi (0 : Int32))]) d137_7 mx137 (by decide) rfl rfl ?_
  exact f_B_bestStepToLook_l9_ok hD hf K0
noncomputable def f_B_bestStepToLook (v1 : Int32) (h : xH) : Option Int32 := f_B_bestStepToLook_e v1 h
theorem f_B_bestStepToLook_ok {g : xG} {l : Launch} {d : Nat} {v1 : Int32} {h : xH} {r : Int32} (hD : 2 ≤ d) (hf : f_B_bestStepToLook v1 h = some r) : xC g l d 137 [xr 11 (some 0), xi v1] h (some (xi r)) h :=
  xC_of2 (by decide) mx137 (Nat.le_of_ble_eq_true rfl) (f_B_bestStepToLook_e_ok hD hf (fun _ e => by rw [e]))
theorem d136_0 : decode (xcode 136) 0 = .ok (.iload_n 1, 1) := by decide +kernel
theorem d136_1 : decode (xcode 136) 1 = .ok (.ifCond .lt 9, 3) := by decide +kernel
theorem d136_4 : decode (xcode 136) 4 = .ok (.iload_n 1, 1) := by decide +kernel
theorem d136_5 : decode (xcode 136) 5 = .ok (.bipush 6, 2) := by decide +kernel
theorem d136_7 : decode (xcode 136) 7 = .ok (.if_icmp .le 4, 3) := by decide +kernel
theorem d136_10 : decode (xcode 136) 10 = .ok (.return_, 1) := by decide +kernel
theorem d136_11 : decode (xcode 136) 11 = .ok (.iconst 0, 1) := by decide +kernel
theorem d136_12 : decode (xcode 136) 12 = .ok (.istore_n 2, 1) := by decide +kernel
theorem d136_13 : decode (xcode 136) 13 = .ok (.iload_n 2, 1) := by decide +kernel
theorem d136_14 : decode (xcode 136) 14 = .ok (.bipush 61, 2) := by decide +kernel
theorem d136_16 : decode (xcode 136) 16 = .ok (.if_icmp .ge 27, 3) := by decide +kernel
theorem d136_19 : decode (xcode 136) 19 = .ok (.aload_n 0, 1) := by decide +kernel
theorem d136_20 : decode (xcode 136) 20 = .ok (.getfield 95, 3) := by decide +kernel
theorem d136_23 : decode (xcode 136) 23 = .ok (.iload_n 1, 1) := by decide +kernel
theorem d136_24 : decode (xcode 136) 24 = .ok (.bipush 61, 2) := by decide +kernel
theorem d136_26 : decode (xcode 136) 26 = .ok (.imul, 1) := by decide +kernel
theorem d136_27 : decode (xcode 136) 27 = .ok (.iload_n 2, 1) := by decide +kernel
theorem d136_28 : decode (xcode 136) 28 = .ok (.iadd, 1) := by decide +kernel
theorem d136_29 : decode (xcode 136) 29 = .ok (.aload_n 0, 1) := by decide +kernel
theorem d136_30 : decode (xcode 136) 30 = .ok (.getfield 77, 3) := by decide +kernel
theorem d136_33 : decode (xcode 136) 33 = .ok (.invokevirtual 187, 3) := by decide +kernel
theorem d136_36 : decode (xcode 136) 36 = .ok (.iastore, 1) := by decide +kernel
theorem d136_37 : decode (xcode 136) 37 = .ok (.iinc 2 1, 3) := by decide +kernel
theorem d136_40 : decode (xcode 136) 40 = .ok (.goto (-27), 3) := by decide +kernel
theorem d136_43 : decode (xcode 136) 43 = .ok (.return_, 1) := by decide +kernel
noncomputable def f_B_tracePath_s13 (v1 : Int32) (v2 : Int32) (h : xH) : Option ((Int32 × xH) ⊕ xH) :=
  if (61 : Int32) ≤ v2 then (
  some (Sum.inr (h))) else (
  (f_Walk_goOn h).bind fun q6 =>
  if xib ((v1 * (61 : Int32)) + v2) 427 then (
  xlet (xsA q6.2 46 0 (upd (q6.2.2.2.2.1 46 0) ((v1 * (61 : Int32)) + v2).toNatClampNeg q6.1)) fun h8 =>
  xlet (v2 + (1 : Int32)) fun v2_9 =>
  some (Sum.inl (v2_9, h8))) else none)
set_option maxHeartbeats 4000000 in
set_option maxRecDepth 100000 in
theorem f_B_tracePath_s13_ok {g : xG} {l : Launch} {d : Nat} {v1 : Int32} {v2 : Int32} {h : xH} {o : ((Int32 × xH) ⊕ xH)} {R : Option xV} {H' : xH} (hD : 5 ≤ d) (hf : f_B_tracePath_s13 v1 v2 h = some o) (K1 : ∀ (w2 : Int32) (h1 : xH), o = Sum.inl (w2, h1) → xEv g l d 136 13 [(0, xr 11 (some 0)), (1, xi v1), (2, xi w2)] [] h1 R H') (K0 : ∀ (h1 : xH), o = Sum.inr (h1) → R = none ∧ H' = h1) : xEv g l d 136 13 [(0, xr 11 (some 0)), (1, xi v1), (2, xi v2)] [] h R H' := by
  unfold f_B_tracePath_s13 at hf
  refine xs_iload_n d136_13 rfl ?_
  refine xs_bipush (v := 61) d136_14 (by decide) ?_
  rcases lk_if hf with ⟨hc3, hf⟩ | ⟨hc3, hf⟩
  · refine xs_icmp_ge (tgt := 43) d136_16 (by decide) (fun _ => ?_) (fun hn => absurd hc3 hn)
    obtain ⟨eR, eH⟩ := K0 _ (Option.some.inj hf).symm
    subst eR; subst eH
    exact xs_vret d136_43 rt136
  · refine xs_icmp_ge (tgt := 43) d136_16 (by decide) (fun hp => absurd hp hc3) (fun _ => ?_)
    refine xs_aload_n d136_19 rfl ?_
    refine xe_getc (j := 0) d136_20 ky136 fl160 fk11_13 rfl ?_
    refine xs_iload_n d136_23 rfl ?_
    refine xs_bipush (v := 61) d136_24 (by decide) ?_
    refine xs_imul d136_26 ?_
    refine xs_iload_n d136_27 rfl ?_
    refine xs_iadd d136_28 ?_
    refine xs_aload_n d136_29 rfl ?_
    refine xe_getc (j := 0) d136_30 ky136 fl157 fk11_10 rfl ?_
    obtain ⟨q6, hc5, hf⟩ := lk_b hf
    refine xe_callv1 (as := []) (st := [xi ((v1 * (61 : Int32)) + v2), xr 46 (some 0)]) (h2 := q6.2) (d2 := d - 1) d136_33 ky136 ml71 st87 (by decide) cn87 rfl na87 (Nat.le_of_ble_eq_true rfl) (by omega) (f_Walk_goOn_ok (by omega) hc5) ?_
    obtain ⟨hin7, hf⟩ := lk_g hf
    obtain ⟨h8, eh8, hf⟩ := lk_let hf
    refine xe_iast d136_36 (by decide) ak46 hin7  eh8 ?_
    obtain ⟨v2_9, ev2_9, hf⟩ := lk_let hf
    refine xe_iinc (v := v2_9) (b := 1) (ls2 := [(0, xr 11 (some 0)), (1, xi v1), (2, xi v2_9)]) d136_37 mx136 (by decide) rfl (by decide) ev2_9 rfl ?_
    refine xs_goto (tgt := 13) d136_40 (by decide) ?_
    exact K1 _ _ (Option.some.inj hf).symm
noncomputable def f_B_tracePath_l13 (v1 : Int32) (v2 : Int32) (h : xH) : Option xH :=
  whl (fun s => f_B_tracePath_s13 v1 s.1 s.2) (v2, h)
theorem f_B_tracePath_l13_ok {g : xG} {l : Launch} {d : Nat} {v1 : Int32} {v2 : Int32} {h : xH} {o : xH} {R : Option xV} {H' : xH} (hD : 5 ≤ d) (hf : f_B_tracePath_l13 v1 v2 h = some o) (K0 : ∀ (h1 : xH), o = h1 → R = none ∧ H' = h1) : xEv g l d 136 13 [(0, xr 11 (some 0)), (1, xi v1), (2, xi v2)] [] h R H' := by
  obtain ⟨n, hn⟩ := whl_iff.mp hf
  clear hf
  induction n generalizing v2 h with
  | zero => cases hn
  | succ n ih =>
    obtain ⟨o2, hs, hn⟩ := lk_b (show (f_B_tracePath_s13 v1 v2 h).bind (fun o => Sum.elim (itn _ n) some o) = some o from hn)
    exact f_B_tracePath_s13_ok hD hs (fun u0 u1 e => ih (by rw [e] at hn; exact hn)) (fun u0 e => K0 u0 (by rw [e] at hn; exact (Option.some.inj hn).symm))
noncomputable def f_B_tracePath_e (v1 : Int32) (h : xH) : Option xH :=
  if v1 < (0 : Int32) then (
  some (h)) else (
  if v1 ≤ (6 : Int32) then (
  f_B_tracePath_l13 v1 (0 : Int32) h) else (
  some (h)))
set_option maxHeartbeats 4000000 in
set_option maxRecDepth 100000 in
theorem f_B_tracePath_e_ok {g : xG} {l : Launch} {d : Nat} {v1 : Int32} {h : xH} {o : xH} {R : Option xV} {H' : xH} (hD : 5 ≤ d) (hf : f_B_tracePath_e v1 h = some o) (K0 : ∀ (h1 : xH), o = h1 → R = none ∧ H' = h1) : xEv g l d 136 0 [(0, xr 11 (some 0)), (1, xi v1)] [] h R H' := by
  unfold f_B_tracePath_e at hf
  refine xs_iload_n d136_0 rfl ?_
  rcases lk_if hf with ⟨hc1, hf⟩ | ⟨hc1, hf⟩
  · refine xs_if_lt (tgt := 10) d136_1 (by decide) (fun _ => ?_) (fun hn => absurd hc1 hn)
    obtain ⟨eR, eH⟩ := K0 _ (Option.some.inj hf).symm
    subst eR; subst eH
    exact xs_vret d136_10 rt136
  · refine xs_if_lt (tgt := 10) d136_1 (by decide) (fun hp => absurd hp hc1) (fun _ => ?_)
    refine xs_iload_n d136_4 rfl ?_
    refine xs_bipush (v := 6) d136_5 (by decide) ?_
    rcases lk_if hf with ⟨hc2, hf⟩ | ⟨hc2, hf⟩
    · refine xs_icmp_le (tgt := 11) d136_7 (by decide) (fun _ => ?_) (fun hn => absurd hc2 hn)
      refine xs_iconst (v := 0) d136_11 (by decide) ?_
      refine xe_istore_n (v := (0 : Int32)) (ls2 := [(0, xr 11 (some 0)), (1, xi v1), (2, xi (0 : Int32))]) d136_12 mx136 (by decide) rfl rfl ?_
      exact f_B_tracePath_l13_ok hD hf K0
    · refine xs_icmp_le (tgt := 11) d136_7 (by decide) (fun hp => absurd hp hc2) (fun _ => ?_)
      obtain ⟨eR, eH⟩ := K0 _ (Option.some.inj hf).symm
      subst eR; subst eH
      exact xs_vret d136_10 rt136
noncomputable def f_B_tracePath (v1 : Int32) (h : xH) : Option xH := f_B_tracePath_e v1 h
theorem f_B_tracePath_ok {g : xG} {l : Launch} {d : Nat} {v1 : Int32} {h : xH} {h1 : xH} (hD : 5 ≤ d) (hf : f_B_tracePath v1 h = some h1) : xC g l d 136 [xr 11 (some 0), xi v1] h none h1 :=
  xC_of2 (by decide) mx136 (Nat.le_of_ble_eq_true rfl) (f_B_tracePath_e_ok hD hf (fun _ e => ⟨rfl, e⟩))
theorem d123_0 : decode (xcode 123) 0 = .ok (.aload_n 0, 1) := by decide +kernel
theorem d123_1 : decode (xcode 123) 1 = .ok (.getfield 55, 3) := by decide +kernel
theorem d123_4 : decode (xcode 123) 4 = .ok (.getfield 114, 3) := by decide +kernel
theorem d123_7 : decode (xcode 123) 7 = .ok (.getfield 173, 3) := by decide +kernel
theorem d123_10 : decode (xcode 123) 10 = .ok (.ifCond .eq 12, 3) := by decide +kernel
theorem d123_13 : decode (xcode 123) 13 = .ok (.iload_n 1, 1) := by decide +kernel
theorem d123_14 : decode (xcode 123) 14 = .ok (.ifCond .lt 8, 3) := by decide +kernel
theorem d123_17 : decode (xcode 123) 17 = .ok (.iload_n 1, 1) := by decide +kernel
theorem d123_18 : decode (xcode 123) 18 = .ok (.iconst 1, 1) := by decide +kernel
theorem d123_19 : decode (xcode 123) 19 = .ok (.if_icmp .le 5, 3) := by decide +kernel
theorem d123_22 : decode (xcode 123) 22 = .ok (.iconst (-1), 1) := by decide +kernel
theorem d123_23 : decode (xcode 123) 23 = .ok (.ireturn, 1) := by decide +kernel
theorem d123_24 : decode (xcode 123) 24 = .ok (.iconst 0, 1) := by decide +kernel
theorem d123_25 : decode (xcode 123) 25 = .ok (.istore_n 2, 1) := by decide +kernel
theorem d123_26 : decode (xcode 123) 26 = .ok (.iconst (-1), 1) := by decide +kernel
theorem d123_27 : decode (xcode 123) 27 = .ok (.istore_n 3, 1) := by decide +kernel
theorem d123_28 : decode (xcode 123) 28 = .ok (.iload_n 3, 1) := by decide +kernel
theorem d123_29 : decode (xcode 123) 29 = .ok (.aload_n 0, 1) := by decide +kernel
theorem d123_30 : decode (xcode 123) 30 = .ok (.getfield 48, 3) := by decide +kernel
theorem d123_33 : decode (xcode 123) 33 = .ok (.if_icmp .ge 34, 3) := by decide +kernel
theorem d123_36 : decode (xcode 123) 36 = .ok (.aload_n 0, 1) := by decide +kernel
theorem d123_37 : decode (xcode 123) 37 = .ok (.iload_n 3, 1) := by decide +kernel
theorem d123_38 : decode (xcode 123) 38 = .ok (.invokevirtual 313, 3) := by decide +kernel
theorem d123_41 : decode (xcode 123) 41 = .ok (.aload_n 0, 1) := by decide +kernel
theorem d123_42 : decode (xcode 123) 42 = .ok (.invokevirtual 316, 3) := by decide +kernel
theorem d123_45 : decode (xcode 123) 45 = .ok (.ifCond .eq 16, 3) := by decide +kernel
theorem d123_48 : decode (xcode 123) 48 = .ok (.aload_n 0, 1) := by decide +kernel
theorem d123_49 : decode (xcode 123) 49 = .ok (.iload_n 3, 1) := by decide +kernel
theorem d123_50 : decode (xcode 123) 50 = .ok (.invokevirtual 313, 3) := by decide +kernel
theorem d123_53 : decode (xcode 123) 53 = .ok (.aload_n 0, 1) := by decide +kernel
theorem d123_54 : decode (xcode 123) 54 = .ok (.iload_n 2, 1) := by decide +kernel
theorem d123_55 : decode (xcode 123) 55 = .ok (.invokevirtual 320, 3) := by decide +kernel
theorem d123_58 : decode (xcode 123) 58 = .ok (.iinc 2 1, 3) := by decide +kernel
theorem d123_61 : decode (xcode 123) 61 = .ok (.iinc 3 1, 3) := by decide +kernel
theorem d123_64 : decode (xcode 123) 64 = .ok (.goto (-36), 3) := by decide +kernel
theorem d123_67 : decode (xcode 123) 67 = .ok (.iload_n 2, 1) := by decide +kernel
theorem d123_68 : decode (xcode 123) 68 = .ok (.ifCond .ne 6, 3) := by decide +kernel
theorem d123_71 : decode (xcode 123) 71 = .ok (.bipush (-2), 2) := by decide +kernel
theorem d123_73 : decode (xcode 123) 73 = .ok (.ireturn, 1) := by decide +kernel
theorem d123_74 : decode (xcode 123) 74 = .ok (.aload_n 0, 1) := by decide +kernel
theorem d123_75 : decode (xcode 123) 75 = .ok (.iload_n 2, 1) := by decide +kernel
theorem d123_76 : decode (xcode 123) 76 = .ok (.invokevirtual 323, 3) := by decide +kernel
theorem d123_79 : decode (xcode 123) 79 = .ok (.istore_n 3, 1) := by decide +kernel
theorem d123_80 : decode (xcode 123) 80 = .ok (.iload_n 1, 1) := by decide +kernel
theorem d123_81 : decode (xcode 123) 81 = .ok (.ifCond .ne 7, 3) := by decide +kernel
theorem d123_84 : decode (xcode 123) 84 = .ok (.iload_n 3, 1) := by decide +kernel
theorem d123_85 : decode (xcode 123) 85 = .ok (.goto 9, 3) := by decide +kernel
theorem d123_88 : decode (xcode 123) 88 = .ok (.aload_n 0, 1) := by decide +kernel
theorem d123_89 : decode (xcode 123) 89 = .ok (.iload_n 2, 1) := by decide +kernel
theorem d123_90 : decode (xcode 123) 90 = .ok (.iload_n 3, 1) := by decide +kernel
theorem d123_91 : decode (xcode 123) 91 = .ok (.invokevirtual 326, 3) := by decide +kernel
theorem d123_94 : decode (xcode 123) 94 = .ok (.ireturn, 1) := by decide +kernel
noncomputable def f_B_look_b67 (v1 : Int32) (v2 : Int32) (h : xH) : Option (Int32 × xH) :=
  if v2 = (0 : Int32) then (
  some (((-2 : Int32), h))) else (
  (f_B_bestStepToLook v2 h).bind fun r6 =>
  if v1 = (0 : Int32) then (
  some ((r6, h))) else (
  (f_B_mostAlike v2 r6 h).bind fun r9 =>
  some ((r9, h))))
set_option maxHeartbeats 4000000 in
set_option maxRecDepth 100000 in
theorem f_B_look_b67_ok {g : xG} {l : Launch} {d : Nat} {v1 : Int32} {v2 : Int32} {h : xH} {o : (Int32 × xH)} {R : Option xV} {H' : xH} (hD : 6 ≤ d) (hf : f_B_look_b67 v1 v2 h = some o) (K0 : ∀ (a : Int32) (h1 : xH), o = (a, h1) → R = some (xi a) ∧ H' = h1) : xEv g l d 123 67 [(0, xr 11 (some 0)), (1, xi v1), (2, xi v2)] [] h R H' := by
  unfold f_B_look_b67 at hf
  refine xs_iload_n d123_67 rfl ?_
  rcases lk_if hf with ⟨hc5, hf⟩ | ⟨hc5, hf⟩
  · refine xs_if_ne (tgt := 74) d123_68 (by decide) (fun _ => ?_) (fun hn => absurd hc5 hn)
    refine xs_bipush (v := -2) d123_71 (by decide) ?_
    obtain ⟨eR, eH⟩ := K0 _ _ (Option.some.inj hf).symm
    subst eR; subst eH
    exact xs_iret d123_73 rt123
  · refine xs_if_ne (tgt := 74) d123_68 (by decide) (fun hp => absurd hp hc5) (fun _ => ?_)
    refine xs_aload_n d123_74 rfl ?_
    refine xs_iload_n d123_75 rfl ?_
    obtain ⟨r6, hc7, hf⟩ := lk_b hf
    refine xe_callv1 (as := [xi v2]) (st := []) (h2 := h) (d2 := d - 1) d123_76 ky123 ml165 st137 (by decide) cn137 rfl na137 (Nat.le_of_ble_eq_true rfl) (by omega) (f_B_bestStepToLook_ok (by omega) hc7) ?_
    refine xe_istore_n (v := r6) (ls2 := [(0, xr 11 (some 0)), (1, xi v1), (2, xi v2), (3, xi r6)]) d123_79 mx123 (by decide) rfl rfl ?_
    refine xs_iload_n d123_80 rfl ?_
    rcases lk_if hf with ⟨hc8, hf⟩ | ⟨hc8, hf⟩
    · refine xs_if_ne (tgt := 88) d123_81 (by decide) (fun _ => ?_) (fun hn => absurd hc8 hn)
      refine xs_iload_n d123_84 rfl ?_
      refine xs_goto (tgt := 94) d123_85 (by decide) ?_
      obtain ⟨eR, eH⟩ := K0 _ _ (Option.some.inj hf).symm
      subst eR; subst eH
      exact xs_iret d123_94 rt123
    · refine xs_if_ne (tgt := 88) d123_81 (by decide) (fun hp => absurd hp hc8) (fun _ => ?_)
      refine xs_aload_n d123_88 rfl ?_
      refine xs_iload_n d123_89 rfl ?_
      refine xs_iload_n d123_90 rfl ?_
      obtain ⟨r9, hc10, hf⟩ := lk_b hf
      refine xe_callv1 (as := [xi v2, xi r6]) (st := []) (h2 := h) (d2 := d - 1) d123_91 ky123 ml166 st138 (by decide) cn138 rfl na138 (Nat.le_of_ble_eq_true rfl) (by omega) (f_B_mostAlike_ok (by omega) hc10) ?_
      obtain ⟨eR, eH⟩ := K0 _ _ (Option.some.inj hf).symm
      subst eR; subst eH
      exact xs_iret d123_94 rt123
noncomputable def f_B_look_b61 (v1 : Int32) (v2 : Int32) (v3 : Int32) (h : xH) : Option ((Int32 × Int32 × xH) ⊕ (Int32 × xH)) :=
  xlet (v3 + (1 : Int32)) fun v3_18 =>
  some (Sum.inl (v2, v3_18, h))
set_option maxHeartbeats 4000000 in
set_option maxRecDepth 100000 in
theorem f_B_look_b61_ok {g : xG} {l : Launch} {d : Nat} {v1 : Int32} {v2 : Int32} {v3 : Int32} {h : xH} {o : ((Int32 × Int32 × xH) ⊕ (Int32 × xH))} {R : Option xV} {H' : xH} (hD : 6 ≤ d) (hf : f_B_look_b61 v1 v2 v3 h = some o) (K1 : ∀ (w2 : Int32) (w3 : Int32) (h1 : xH), o = Sum.inl (w2, w3, h1) → xEv g l d 123 28 [(0, xr 11 (some 0)), (1, xi v1), (2, xi w2), (3, xi w3)] [] h1 R H') (K0 : ∀ (a : Int32) (h1 : xH), o = Sum.inr ((a, h1)) → R = some (xi a) ∧ H' = h1) : xEv g l d 123 61 [(0, xr 11 (some 0)), (1, xi v1), (2, xi v2), (3, xi v3)] [] h R H' := by
  unfold f_B_look_b61 at hf
  obtain ⟨v3_18, ev3_18, hf⟩ := lk_let hf
  refine xe_iinc (v := v3_18) (b := 1) (ls2 := [(0, xr 11 (some 0)), (1, xi v1), (2, xi v2), (3, xi v3_18)]) d123_61 mx123 (by decide) rfl (by decide) ev3_18 rfl ?_
  refine xs_goto (tgt := 28) d123_64 (by decide) ?_
  exact K1 _ _ _ (Option.some.inj hf).symm
noncomputable def f_B_look_s28 (v1 : Int32) (v2 : Int32) (v3 : Int32) (h : xH) : Option ((Int32 × Int32 × xH) ⊕ (Int32 × xH)) :=
  if (h.1 11 5 0) ≤ v3 then (
  xup (f_B_look_b67 v1 v2 h)) else (
  (f_B_startFromBegin v3 h).bind fun h13 =>
  (f_B_allNotesAreSo h13).bind fun q16 =>
  if q16.1 = (0 : Int32) then (
  f_B_look_b61 v1 v2 v3 q16.2) else (
  (f_B_startFromBegin v3 q16.2).bind fun h21 =>
  (f_B_tracePath v2 h21).bind fun h24 =>
  xlet (v2 + (1 : Int32)) fun v2_25 =>
  f_B_look_b61 v1 v2_25 v3 h24))
set_option maxHeartbeats 4000000 in
set_option maxRecDepth 100000 in
theorem f_B_look_s28_ok {g : xG} {l : Launch} {d : Nat} {v1 : Int32} {v2 : Int32} {v3 : Int32} {h : xH} {o : ((Int32 × Int32 × xH) ⊕ (Int32 × xH))} {R : Option xV} {H' : xH} (hD : 6 ≤ d) (hf : f_B_look_s28 v1 v2 v3 h = some o) (K1 : ∀ (w2 : Int32) (w3 : Int32) (h1 : xH), o = Sum.inl (w2, w3, h1) → xEv g l d 123 28 [(0, xr 11 (some 0)), (1, xi v1), (2, xi w2), (3, xi w3)] [] h1 R H') (K0 : ∀ (a : Int32) (h1 : xH), o = Sum.inr ((a, h1)) → R = some (xi a) ∧ H' = h1) : xEv g l d 123 28 [(0, xr 11 (some 0)), (1, xi v1), (2, xi v2), (3, xi v3)] [] h R H' := by
  unfold f_B_look_s28 at hf
  refine xs_iload_n d123_28 rfl ?_
  refine xs_aload_n d123_29 rfl ?_
  refine xe_geti d123_30 ky123 fl152 fk11_5 ?_
  rcases lk_if hf with ⟨hc4, hf⟩ | ⟨hc4, hf⟩
  · refine xs_icmp_ge (tgt := 67) d123_33 (by decide) (fun _ => ?_) (fun hn => absurd hc4 hn)
    refine xs_pick [0, 1, 2] rfl ?_
    obtain ⟨x0, hf, ex0⟩ := lk_up hf
    exact f_B_look_b67_ok hD hf (fun u0 u1 e => K0 u0 u1 (ex0.trans (congrArg Sum.inr e)))
  · refine xs_icmp_ge (tgt := 67) d123_33 (by decide) (fun hp => absurd hp hc4) (fun _ => ?_)
    refine xs_aload_n d123_36 rfl ?_
    refine xs_iload_n d123_37 rfl ?_
    obtain ⟨h13, hc12, hf⟩ := lk_b hf
    refine xe_callv0 (as := [xi v3]) (st := []) (h2 := h13) (d2 := d - 1) d123_38 ky123 ml155 st132 (by decide) cn132 rfl na132 (Nat.le_of_ble_eq_true rfl) (by omega) (f_B_startFromBegin_ok (by omega) hc12) ?_
    refine xs_aload_n d123_41 rfl ?_
    obtain ⟨q16, hc15, hf⟩ := lk_b hf
    refine xe_callv1 (as := []) (st := []) (h2 := q16.2) (d2 := d - 1) d123_42 ky123 ml158 st135 (by decide) cn135 rfl na135 (Nat.le_of_ble_eq_true rfl) (by omega) (f_B_allNotesAreSo_ok (by omega) hc15) ?_
    rcases lk_if hf with ⟨hc17, hf⟩ | ⟨hc17, hf⟩
    · refine xs_if_eq (tgt := 61) d123_45 (by decide) (fun _ => ?_) (fun hn => absurd hc17 hn)
      exact f_B_look_b61_ok hD hf K1 K0
    · refine xs_if_eq (tgt := 61) d123_45 (by decide) (fun hp => absurd hp hc17) (fun _ => ?_)
      refine xs_aload_n d123_48 rfl ?_
      refine xs_iload_n d123_49 rfl ?_
      obtain ⟨h21, hc20, hf⟩ := lk_b hf
      refine xe_callv0 (as := [xi v3]) (st := []) (h2 := h21) (d2 := d - 1) d123_50 ky123 ml155 st132 (by decide) cn132 rfl na132 (Nat.le_of_ble_eq_true rfl) (by omega) (f_B_startFromBegin_ok (by omega) hc20) ?_
      refine xs_aload_n d123_53 rfl ?_
      refine xs_iload_n d123_54 rfl ?_
      obtain ⟨h24, hc23, hf⟩ := lk_b hf
      refine xe_callv0 (as := [xi v2]) (st := []) (h2 := h24) (d2 := d - 1) d123_55 ky123 ml164 st136 (by decide) cn136 rfl na136 (Nat.le_of_ble_eq_true rfl) (by omega) (f_B_tracePath_ok (by omega) hc23) ?_
      obtain ⟨v2_25, ev2_25, hf⟩ := lk_let hf
      refine xe_iinc (v := v2_25) (b := 1) (ls2 := [(0, xr 11 (some 0)), (1, xi v1), (2, xi v2_25), (3, xi v3)]) d123_58 mx123 (by decide) rfl (by decide) ev2_25 rfl ?_
      exact f_B_look_b61_ok hD hf K1 K0
noncomputable def f_B_look_l28 (v1 : Int32) (v2 : Int32) (v3 : Int32) (h : xH) : Option (Int32 × xH) :=
  whl (fun s => f_B_look_s28 v1 s.1 s.2.1 s.2.2) (v2, v3, h)
theorem f_B_look_l28_ok {g : xG} {l : Launch} {d : Nat} {v1 : Int32} {v2 : Int32} {v3 : Int32} {h : xH} {o : (Int32 × xH)} {R : Option xV} {H' : xH} (hD : 6 ≤ d) (hf : f_B_look_l28 v1 v2 v3 h = some o) (K0 : ∀ (a : Int32) (h1 : xH), o = (a, h1) → R = some (xi a) ∧ H' = h1) : xEv g l d 123 28 [(0, xr 11 (some 0)), (1, xi v1), (2, xi v2), (3, xi v3)] [] h R H' := by
  obtain ⟨n, hn⟩ := whl_iff.mp hf
  clear hf
  induction n generalizing v2 v3 h with
  | zero => cases hn
  | succ n ih =>
    obtain ⟨o2, hs, hn⟩ := lk_b (show (f_B_look_s28 v1 v2 v3 h).bind (fun o => Sum.elim (itn _ n) some o) = some o from hn)
    exact f_B_look_s28_ok hD hs (fun u0 u1 u2 e => ih (by rw [e] at hn; exact hn)) (fun u0 u1 e => K0 u0 u1 (by rw [e] at hn; exact (Option.some.inj hn).symm))
noncomputable def f_B_look_e (v1 : Int32) (h : xH) : Option (Int32 × xH) :=
  if (h.1 8 0 0) = (0 : Int32) then (
  some (((-1 : Int32), h))) else (
  if v1 < (0 : Int32) then (
  some (((-1 : Int32), h))) else (
  if v1 ≤ (1 : Int32) then (
  f_B_look_l28 v1 (0 : Int32) (-1 : Int32) h) else (
  some (((-1 : Int32), h)))))
set_option maxHeartbeats 4000000 in
set_option maxRecDepth 100000 in
theorem f_B_look_e_ok {g : xG} {l : Launch} {d : Nat} {v1 : Int32} {h : xH} {o : (Int32 × xH)} {R : Option xV} {H' : xH} (hD : 6 ≤ d) (hf : f_B_look_e v1 h = some o) (K0 : ∀ (a : Int32) (h1 : xH), o = (a, h1) → R = some (xi a) ∧ H' = h1) : xEv g l d 123 0 [(0, xr 11 (some 0)), (1, xi v1)] [] h R H' := by
  unfold f_B_look_e at hf
  refine xs_aload_n d123_0 rfl ?_
  refine xe_getc (j := 0) d123_1 ky123 fl153 fk11_6 rfl ?_
  refine xe_getc (j := 0) d123_4 ky123 fl96 fk4_0 rfl ?_
  refine xe_geti d123_7 ky123 fl19 fk8_0 ?_
  rcases lk_if hf with ⟨hc1, hf⟩ | ⟨hc1, hf⟩
  · refine xs_if_eq (tgt := 22) d123_10 (by decide) (fun _ => ?_) (fun hn => absurd hc1 hn)
    refine xs_iconst (v := -1) d123_22 (by decide) ?_
    obtain ⟨eR, eH⟩ := K0 _ _ (Option.some.inj hf).symm
    subst eR; subst eH
    exact xs_iret d123_23 rt123
  · refine xs_if_eq (tgt := 22) d123_10 (by decide) (fun hp => absurd hp hc1) (fun _ => ?_)
    refine xs_iload_n d123_13 rfl ?_
    rcases lk_if hf with ⟨hc2, hf⟩ | ⟨hc2, hf⟩
    · refine xs_if_lt (tgt := 22) d123_14 (by decide) (fun _ => ?_) (fun hn => absurd hc2 hn)
      refine xs_iconst (v := -1) d123_22 (by decide) ?_
      obtain ⟨eR, eH⟩ := K0 _ _ (Option.some.inj hf).symm
      subst eR; subst eH
      exact xs_iret d123_23 rt123
    · refine xs_if_lt (tgt := 22) d123_14 (by decide) (fun hp => absurd hp hc2) (fun _ => ?_)
      refine xs_iload_n d123_17 rfl ?_
      refine xs_iconst (v := 1) d123_18 (by decide) ?_
      rcases lk_if hf with ⟨hc3, hf⟩ | ⟨hc3, hf⟩
      · refine xs_icmp_le (tgt := 24) d123_19 (by decide) (fun _ => ?_) (fun hn => absurd hc3 hn)
        refine xs_iconst (v := 0) d123_24 (by decide) ?_
        refine xe_istore_n (v := (0 : Int32)) (ls2 := [(0, xr 11 (some 0)), (1, xi v1), (2, xi (0 : Int32))]) d123_25 mx123 (by decide) rfl rfl ?_
        refine xs_iconst (v := -1) d123_26 (by decide) ?_
        refine xe_istore_n (v := (-1 : Int32)) (ls2 := [(0, xr 11 (some 0)), (1, xi v1), (2, xi (0 : Int32)), (3, xi (-1 : Int32))]) d123_27 mx123 (by decide) rfl rfl ?_
        exact f_B_look_l28_ok hD hf K0
      · refine xs_icmp_le (tgt := 24) d123_19 (by decide) (fun hp => absurd hp hc3) (fun _ => ?_)
        refine xs_iconst (v := -1) d123_22 (by decide) ?_
        obtain ⟨eR, eH⟩ := K0 _ _ (Option.some.inj hf).symm
        subst eR; subst eH
        exact xs_iret d123_23 rt123
noncomputable def f_B_look (v1 : Int32) (h : xH) : Option (Int32 × xH) := f_B_look_e v1 h
theorem f_B_look_ok {g : xG} {l : Launch} {d : Nat} {v1 : Int32} {h : xH} {r : Int32} {h1 : xH} (hD : 6 ≤ d) (hf : f_B_look v1 h = some (r, h1)) : xC g l d 123 [xr 11 (some 0), xi v1] h (some (xi r)) h1 :=
  xC_of2 (by decide) mx123 (Nat.le_of_ble_eq_true rfl) (f_B_look_e_ok hD hf (fun _ _ e => by cases e; exact ⟨rfl, rfl⟩))
theorem d124_0 : decode (xcode 124) 0 = .ok (.iload_n 1, 1) := by decide +kernel
theorem d124_1 : decode (xcode 124) 1 = .ok (.ifCond .ge 5, 3) := by decide +kernel
theorem d124_4 : decode (xcode 124) 4 = .ok (.iconst (-1), 1) := by decide +kernel
theorem d124_5 : decode (xcode 124) 5 = .ok (.ireturn, 1) := by decide +kernel
theorem d124_6 : decode (xcode 124) 6 = .ok (.aload_n 0, 1) := by decide +kernel
theorem d124_7 : decode (xcode 124) 7 = .ok (.getfield 55, 3) := by decide +kernel
theorem d124_10 : decode (xcode 124) 10 = .ok (.getfield 329, 3) := by decide +kernel
theorem d124_13 : decode (xcode 124) 13 = .ok (.istore_n 2, 1) := by decide +kernel
theorem d124_14 : decode (xcode 124) 14 = .ok (.aload_n 0, 1) := by decide +kernel
theorem d124_15 : decode (xcode 124) 15 = .ok (.getfield 55, 3) := by decide +kernel
theorem d124_18 : decode (xcode 124) 18 = .ok (.iload_n 1, 1) := by decide +kernel
theorem d124_19 : decode (xcode 124) 19 = .ok (.putfield 329, 3) := by decide +kernel
theorem d124_22 : decode (xcode 124) 22 = .ok (.iload_n 2, 1) := by decide +kernel
theorem d124_23 : decode (xcode 124) 23 = .ok (.ireturn, 1) := by decide +kernel
noncomputable def f_B_seed_e (v1 : Int32) (h : xH) : Option (Int32 × xH) :=
  if (0 : Int32) ≤ v1 then (
  xlet (h.1 4 3 0) fun v2_2 =>
  xlet (xsI h 4 3 0 v1) fun h3 =>
  some ((v2_2, h3))) else (
  some (((-1 : Int32), h)))
set_option maxHeartbeats 4000000 in
set_option maxRecDepth 100000 in
theorem f_B_seed_e_ok {g : xG} {l : Launch} {d : Nat} {v1 : Int32} {h : xH} {o : (Int32 × xH)} {R : Option xV} {H' : xH} (hD : 0 ≤ d) (hf : f_B_seed_e v1 h = some o) (K0 : ∀ (a : Int32) (h1 : xH), o = (a, h1) → R = some (xi a) ∧ H' = h1) : xEv g l d 124 0 [(0, xr 11 (some 0)), (1, xi v1)] [] h R H' := by
  unfold f_B_seed_e at hf
  refine xs_iload_n d124_0 rfl ?_
  rcases lk_if hf with ⟨hc1, hf⟩ | ⟨hc1, hf⟩
  · refine xs_if_ge (tgt := 6) d124_1 (by decide) (fun _ => ?_) (fun hn => absurd hc1 hn)
    refine xs_aload_n d124_6 rfl ?_
    refine xe_getc (j := 0) d124_7 ky124 fl153 fk11_6 rfl ?_
    refine xe_geti d124_10 ky124 fl102 fk4_3 ?_
    obtain ⟨v2_2, ev2_2, hf⟩ := lk_let hf
    refine xe_istore_n (v := v2_2) (ls2 := [(0, xr 11 (some 0)), (1, xi v1), (2, xi v2_2)]) d124_13 mx124 (by decide) ev2_2 rfl ?_
    refine xs_aload_n d124_14 rfl ?_
    refine xe_getc (j := 0) d124_15 ky124 fl153 fk11_6 rfl ?_
    refine xs_iload_n d124_18 rfl ?_
    obtain ⟨h3, eh3, hf⟩ := lk_let hf
    refine xe_puti d124_19 ky124 fl102 fk4_3 ft4_3 eh3 ?_
    refine xs_iload_n d124_22 rfl ?_
    obtain ⟨eR, eH⟩ := K0 _ _ (Option.some.inj hf).symm
    subst eR; subst eH
    exact xs_iret d124_23 rt124
  · refine xs_if_ge (tgt := 6) d124_1 (by decide) (fun hp => absurd hp hc1) (fun _ => ?_)
    refine xs_iconst (v := -1) d124_4 (by decide) ?_
    obtain ⟨eR, eH⟩ := K0 _ _ (Option.some.inj hf).symm
    subst eR; subst eH
    exact xs_iret d124_5 rt124
noncomputable def f_B_seed (v1 : Int32) (h : xH) : Option (Int32 × xH) := f_B_seed_e v1 h
theorem f_B_seed_ok {g : xG} {l : Launch} {d : Nat} {v1 : Int32} {h : xH} {r : Int32} {h1 : xH} (hD : 0 ≤ d) (hf : f_B_seed v1 h = some (r, h1)) : xC g l d 124 [xr 11 (some 0), xi v1] h (some (xi r)) h1 :=
  xC_of2 (by decide) mx124 (Nat.le_of_ble_eq_true rfl) (f_B_seed_e_ok hD hf (fun _ _ e => by cases e; exact ⟨rfl, rfl⟩))
theorem d125_0 : decode (xcode 125) 0 = .ok (.aload_n 0, 1) := by decide +kernel
theorem d125_1 : decode (xcode 125) 1 = .ok (.getfield 55, 3) := by decide +kernel
theorem d125_4 : decode (xcode 125) 4 = .ok (.getfield 114, 3) := by decide +kernel
theorem d125_7 : decode (xcode 125) 7 = .ok (.getfield 173, 3) := by decide +kernel
theorem d125_10 : decode (xcode 125) 10 = .ok (.ifCond .eq 14, 3) := by decide +kernel
theorem d125_13 : decode (xcode 125) 13 = .ok (.iload_n 1, 1) := by decide +kernel
theorem d125_14 : decode (xcode 125) 14 = .ok (.iconst 1, 1) := by decide +kernel
theorem d125_15 : decode (xcode 125) 15 = .ok (.if_icmp .lt 9, 3) := by decide +kernel
theorem d125_18 : decode (xcode 125) 18 = .ok (.iload_n 1, 1) := by decide +kernel
theorem d125_19 : decode (xcode 125) 19 = .ok (.bipush 20, 2) := by decide +kernel
theorem d125_21 : decode (xcode 125) 21 = .ok (.if_icmp .le 5, 3) := by decide +kernel
theorem d125_24 : decode (xcode 125) 24 = .ok (.iconst (-1), 1) := by decide +kernel
theorem d125_25 : decode (xcode 125) 25 = .ok (.ireturn, 1) := by decide +kernel
theorem d125_26 : decode (xcode 125) 26 = .ok (.iload_n 2, 1) := by decide +kernel
theorem d125_27 : decode (xcode 125) 27 = .ok (.ifCond .lt 8, 3) := by decide +kernel
theorem d125_30 : decode (xcode 125) 30 = .ok (.iload_n 2, 1) := by decide +kernel
theorem d125_31 : decode (xcode 125) 31 = .ok (.iconst 1, 1) := by decide +kernel
theorem d125_32 : decode (xcode 125) 32 = .ok (.if_icmp .le 5, 3) := by decide +kernel
theorem d125_35 : decode (xcode 125) 35 = .ok (.iconst (-1), 1) := by decide +kernel
theorem d125_36 : decode (xcode 125) 36 = .ok (.ireturn, 1) := by decide +kernel
theorem d125_37 : decode (xcode 125) 37 = .ok (.iconst 0, 1) := by decide +kernel
theorem d125_38 : decode (xcode 125) 38 = .ok (.istore_n 3, 1) := by decide +kernel
theorem d125_39 : decode (xcode 125) 39 = .ok (.aload_n 0, 1) := by decide +kernel
theorem d125_40 : decode (xcode 125) 40 = .ok (.getfield 55, 3) := by decide +kernel
theorem d125_43 : decode (xcode 125) 43 = .ok (.getfield 329, 3) := by decide +kernel
theorem d125_46 : decode (xcode 125) 46 = .ok (.istore 4, 2) := by decide +kernel
theorem d125_48 : decode (xcode 125) 48 = .ok (.iconst 0, 1) := by decide +kernel
theorem d125_49 : decode (xcode 125) 49 = .ok (.istore 5, 2) := by decide +kernel
theorem d125_51 : decode (xcode 125) 51 = .ok (.iload 5, 2) := by decide +kernel
theorem d125_53 : decode (xcode 125) 53 = .ok (.iload_n 1, 1) := by decide +kernel
theorem d125_54 : decode (xcode 125) 54 = .ok (.if_icmp .ge 64, 3) := by decide +kernel
theorem d125_57 : decode (xcode 125) 57 = .ok (.aload_n 0, 1) := by decide +kernel
theorem d125_58 : decode (xcode 125) 58 = .ok (.invokevirtual 184, 3) := by decide +kernel
theorem d125_61 : decode (xcode 125) 61 = .ok (.aload_n 0, 1) := by decide +kernel
theorem d125_62 : decode (xcode 125) 62 = .ok (.getfield 77, 3) := by decide +kernel
theorem d125_65 : decode (xcode 125) 65 = .ok (.iload 4, 2) := by decide +kernel
theorem d125_67 : decode (xcode 125) 67 = .ok (.invokevirtual 332, 3) := by decide +kernel
theorem d125_70 : decode (xcode 125) 70 = .ok (.istore 4, 2) := by decide +kernel
theorem d125_72 : decode (xcode 125) 72 = .ok (.iload_n 3, 1) := by decide +kernel
theorem d125_73 : decode (xcode 125) 73 = .ok (.iload_n 2, 1) := by decide +kernel
theorem d125_74 : decode (xcode 125) 74 = .ok (.ifCond .ne 26, 3) := by decide +kernel
theorem d125_77 : decode (xcode 125) 77 = .ok (.aload_n 0, 1) := by decide +kernel
theorem d125_78 : decode (xcode 125) 78 = .ok (.getfield 55, 3) := by decide +kernel
theorem d125_81 : decode (xcode 125) 81 = .ok (.getfield 114, 3) := by decide +kernel
theorem d125_84 : decode (xcode 125) 84 = .ok (.aload_n 0, 1) := by decide +kernel
theorem d125_85 : decode (xcode 125) 85 = .ok (.getfield 77, 3) := by decide +kernel
theorem d125_88 : decode (xcode 125) 88 = .ok (.getfield 190, 3) := by decide +kernel
theorem d125_91 : decode (xcode 125) 91 = .ok (.getfield 218, 3) := by decide +kernel
theorem d125_94 : decode (xcode 125) 94 = .ok (.invokevirtual 221, 3) := by decide +kernel
theorem d125_97 : decode (xcode 125) 97 = .ok (.goto 13, 3) := by decide +kernel
theorem d125_100 : decode (xcode 125) 100 = .ok (.aload_n 0, 1) := by decide +kernel
theorem d125_101 : decode (xcode 125) 101 = .ok (.getfield 77, 3) := by decide +kernel
theorem d125_104 : decode (xcode 125) 104 = .ok (.getfield 190, 3) := by decide +kernel
theorem d125_107 : decode (xcode 125) 107 = .ok (.getfield 203, 3) := by decide +kernel
theorem d125_110 : decode (xcode 125) 110 = .ok (.iadd, 1) := by decide +kernel
theorem d125_111 : decode (xcode 125) 111 = .ok (.istore_n 3, 1) := by decide +kernel
theorem d125_112 : decode (xcode 125) 112 = .ok (.iinc 5 1, 3) := by decide +kernel
theorem d125_115 : decode (xcode 125) 115 = .ok (.goto (-64), 3) := by decide +kernel
theorem d125_118 : decode (xcode 125) 118 = .ok (.iload_n 3, 1) := by decide +kernel
theorem d125_119 : decode (xcode 125) 119 = .ok (.ireturn, 1) := by decide +kernel
noncomputable def f_B_years_b110 (v1 : Int32) (v2 : Int32) (v4 : Int32) (v5 : Int32) (t0 : Int32) (t1 : Int32) (h : xH) : Option ((Int32 × Int32 × Int32 × xH) ⊕ (Int32 × xH)) :=
  xlet (t1 + t0) fun v3_17 =>
  xlet (v5 + (1 : Int32)) fun v5_18 =>
  some (Sum.inl (v3_17, v4, v5_18, h))
set_option maxHeartbeats 4000000 in
set_option maxRecDepth 100000 in
theorem f_B_years_b110_ok {g : xG} {l : Launch} {d : Nat} {v1 : Int32} {v2 : Int32} {v4 : Int32} {v5 : Int32} {t0 : Int32} {t1 : Int32} {h : xH} {o : ((Int32 × Int32 × Int32 × xH) ⊕ (Int32 × xH))} {R : Option xV} {H' : xH} (hD : 4 ≤ d) (hf : f_B_years_b110 v1 v2 v4 v5 t0 t1 h = some o) (K1 : ∀ (w3 : Int32) (w4 : Int32) (w5 : Int32) (h1 : xH), o = Sum.inl (w3, w4, w5, h1) → xEv g l d 125 51 [(0, xr 11 (some 0)), (1, xi v1), (2, xi v2), (3, xi w3), (4, xi w4), (5, xi w5)] [] h1 R H') (K0 : ∀ (a : Int32) (h1 : xH), o = Sum.inr ((a, h1)) → R = some (xi a) ∧ H' = h1) : xEv g l d 125 110 [(0, xr 11 (some 0)), (1, xi v1), (2, xi v2), (4, xi v4), (5, xi v5)] [xi t0, xi t1] h R H' := by
  unfold f_B_years_b110 at hf
  refine xs_iadd d125_110 ?_
  obtain ⟨v3_17, ev3_17, hf⟩ := lk_let hf
  refine xe_istore_n (v := v3_17) (ls2 := [(0, xr 11 (some 0)), (1, xi v1), (2, xi v2), (3, xi v3_17), (4, xi v4), (5, xi v5)]) d125_111 mx125 (by decide) ev3_17 rfl ?_
  obtain ⟨v5_18, ev5_18, hf⟩ := lk_let hf
  refine xe_iinc (v := v5_18) (b := 1) (ls2 := [(0, xr 11 (some 0)), (1, xi v1), (2, xi v2), (3, xi v3_17), (4, xi v4), (5, xi v5_18)]) d125_112 mx125 (by decide) rfl (by decide) ev5_18 rfl ?_
  refine xs_goto (tgt := 51) d125_115 (by decide) ?_
  exact K1 _ _ _ _ (Option.some.inj hf).symm
noncomputable def f_B_years_s51 (v1 : Int32) (v2 : Int32) (v3 : Int32) (v4 : Int32) (v5 : Int32) (h : xH) : Option ((Int32 × Int32 × Int32 × xH) ⊕ (Int32 × xH)) :=
  if v1 ≤ v5 then (
  some (Sum.inr ((v3, h)))) else (
  (f_B_startNow h).bind fun h10 =>
  (f_Walk_goByDraws v4 h10).bind fun q13 =>
  if v2 = (0 : Int32) then (
  (f_Told_deepOf 0 (q13.2.1 6 3 25) q13.2).bind fun r15 =>
  f_B_years_b110 v1 v2 q13.1 v5 r15 v3 q13.2) else (
  f_B_years_b110 v1 v2 q13.1 v5 (q13.2.1 6 0 25) v3 q13.2))
set_option maxHeartbeats 4000000 in
set_option maxRecDepth 100000 in
theorem f_B_years_s51_ok {g : xG} {l : Launch} {d : Nat} {v1 : Int32} {v2 : Int32} {v3 : Int32} {v4 : Int32} {v5 : Int32} {h : xH} {o : ((Int32 × Int32 × Int32 × xH) ⊕ (Int32 × xH))} {R : Option xV} {H' : xH} (hD : 4 ≤ d) (hf : f_B_years_s51 v1 v2 v3 v4 v5 h = some o) (K1 : ∀ (w3 : Int32) (w4 : Int32) (w5 : Int32) (h1 : xH), o = Sum.inl (w3, w4, w5, h1) → xEv g l d 125 51 [(0, xr 11 (some 0)), (1, xi v1), (2, xi v2), (3, xi w3), (4, xi w4), (5, xi w5)] [] h1 R H') (K0 : ∀ (a : Int32) (h1 : xH), o = Sum.inr ((a, h1)) → R = some (xi a) ∧ H' = h1) : xEv g l d 125 51 [(0, xr 11 (some 0)), (1, xi v1), (2, xi v2), (3, xi v3), (4, xi v4), (5, xi v5)] [] h R H' := by
  unfold f_B_years_s51 at hf
  refine xs_iload d125_51 rfl ?_
  refine xs_iload_n d125_53 rfl ?_
  rcases lk_if hf with ⟨hc7, hf⟩ | ⟨hc7, hf⟩
  · refine xs_icmp_ge (tgt := 118) d125_54 (by decide) (fun _ => ?_) (fun hn => absurd hc7 hn)
    refine xs_iload_n d125_118 rfl ?_
    obtain ⟨eR, eH⟩ := K0 _ _ (Option.some.inj hf).symm
    subst eR; subst eH
    exact xs_iret d125_119 rt125
  · refine xs_icmp_ge (tgt := 118) d125_54 (by decide) (fun hp => absurd hp hc7) (fun _ => ?_)
    refine xs_aload_n d125_57 rfl ?_
    obtain ⟨h10, hc9, hf⟩ := lk_b hf
    refine xe_callv0 (as := []) (st := []) (h2 := h10) (d2 := d - 1) d125_58 ky125 ml67 st131 (by decide) cn131 rfl na131 (Nat.le_of_ble_eq_true rfl) (by omega) (f_B_startNow_ok (by omega) hc9) ?_
    refine xs_aload_n d125_61 rfl ?_
    refine xe_getc (j := 0) d125_62 ky125 fl157 fk11_10 rfl ?_
    refine xs_iload d125_65 rfl ?_
    obtain ⟨q13, hc12, hf⟩ := lk_b hf
    refine xe_callv1 (as := [xi v4]) (st := []) (h2 := q13.2) (d2 := d - 1) d125_67 ky125 ml170 st93 (by decide) cn93 rfl na93 (Nat.le_of_ble_eq_true rfl) (by omega) (f_Walk_goByDraws_ok (by omega) hc12) ?_
    refine xe_istore (v := q13.1) (ls2 := [(0, xr 11 (some 0)), (1, xi v1), (2, xi v2), (3, xi v3), (4, xi q13.1), (5, xi v5)]) d125_70 mx125 (by decide) rfl rfl ?_
    refine xs_iload_n d125_72 rfl ?_
    refine xs_iload_n d125_73 rfl ?_
    rcases lk_if hf with ⟨hc14, hf⟩ | ⟨hc14, hf⟩
    · refine xs_if_ne (tgt := 100) d125_74 (by decide) (fun _ => ?_) (fun hn => absurd hc14 hn)
      refine xs_aload_n d125_77 rfl ?_
      refine xe_getc (j := 0) d125_78 ky125 fl153 fk11_6 rfl ?_
      refine xe_getc (j := 0) d125_81 ky125 fl96 fk4_0 rfl ?_
      refine xs_aload_n d125_84 rfl ?_
      refine xe_getc (j := 0) d125_85 ky125 fl157 fk11_10 rfl ?_
      refine xe_getc (j := 25) d125_88 ky125 fl112 fk10_0 rfl ?_
      refine xe_geti d125_91 ky125 fl81 fk6_3 ?_
      obtain ⟨r15, hc16, hf⟩ := lk_b hf
      refine xe_callv1 (as := [xi (q13.2.1 6 3 25)]) (st := [xi v3]) (h2 := q13.2) (d2 := d - 1) d125_94 ky125 ml103 st77 (by decide) cn77 rfl na77 (Nat.le_of_ble_eq_true rfl) (by omega) (f_Told_deepOf_ok (by omega) hc16) ?_
      refine xs_goto (tgt := 110) d125_97 (by decide) ?_
      refine xs_pick [0, 1, 2, 4, 5] rfl ?_
      exact f_B_years_b110_ok hD hf K1 K0
    · refine xs_if_ne (tgt := 100) d125_74 (by decide) (fun hp => absurd hp hc14) (fun _ => ?_)
      refine xs_aload_n d125_100 rfl ?_
      refine xe_getc (j := 0) d125_101 ky125 fl157 fk11_10 rfl ?_
      refine xe_getc (j := 25) d125_104 ky125 fl112 fk10_0 rfl ?_
      refine xe_geti d125_107 ky125 fl70 fk6_0 ?_
      refine xs_pick [0, 1, 2, 4, 5] rfl ?_
      exact f_B_years_b110_ok hD hf K1 K0
noncomputable def f_B_years_l51 (v1 : Int32) (v2 : Int32) (v3 : Int32) (v4 : Int32) (v5 : Int32) (h : xH) : Option (Int32 × xH) :=
  whl (fun s => f_B_years_s51 v1 v2 s.1 s.2.1 s.2.2.1 s.2.2.2) (v3, v4, v5, h)
theorem f_B_years_l51_ok {g : xG} {l : Launch} {d : Nat} {v1 : Int32} {v2 : Int32} {v3 : Int32} {v4 : Int32} {v5 : Int32} {h : xH} {o : (Int32 × xH)} {R : Option xV} {H' : xH} (hD : 4 ≤ d) (hf : f_B_years_l51 v1 v2 v3 v4 v5 h = some o) (K0 : ∀ (a : Int32) (h1 : xH), o = (a, h1) → R = some (xi a) ∧ H' = h1) : xEv g l d 125 51 [(0, xr 11 (some 0)), (1, xi v1), (2, xi v2), (3, xi v3), (4, xi v4), (5, xi v5)] [] h R H' := by
  obtain ⟨n, hn⟩ := whl_iff.mp hf
  clear hf
  induction n generalizing v3 v4 v5 h with
  | zero => cases hn
  | succ n ih =>
    obtain ⟨o2, hs, hn⟩ := lk_b (show (f_B_years_s51 v1 v2 v3 v4 v5 h).bind (fun o => Sum.elim (itn _ n) some o) = some o from hn)
    exact f_B_years_s51_ok hD hs (fun u0 u1 u2 u3 e => ih (by rw [e] at hn; exact hn)) (fun u0 u1 e => K0 u0 u1 (by rw [e] at hn; exact (Option.some.inj hn).symm))
noncomputable def f_B_years_e (v1 : Int32) (v2 : Int32) (h : xH) : Option (Int32 × xH) :=
  if (h.1 8 0 0) = (0 : Int32) then (
  some (((-1 : Int32), h))) else (
  if v1 < (1 : Int32) then (
  some (((-1 : Int32), h))) else (
  if v1 ≤ (20 : Int32) then (
  if v2 < (0 : Int32) then (
  some (((-1 : Int32), h))) else (
  if v2 ≤ (1 : Int32) then (
  xlet (h.1 4 3 0) fun v4_6 =>
  f_B_years_l51 v1 v2 (0 : Int32) v4_6 (0 : Int32) h) else (
  some (((-1 : Int32), h))))) else (
  some (((-1 : Int32), h)))))
set_option maxHeartbeats 4000000 in
set_option maxRecDepth 100000 in
theorem f_B_years_e_ok {g : xG} {l : Launch} {d : Nat} {v1 : Int32} {v2 : Int32} {h : xH} {o : (Int32 × xH)} {R : Option xV} {H' : xH} (hD : 4 ≤ d) (hf : f_B_years_e v1 v2 h = some o) (K0 : ∀ (a : Int32) (h1 : xH), o = (a, h1) → R = some (xi a) ∧ H' = h1) : xEv g l d 125 0 [(0, xr 11 (some 0)), (1, xi v1), (2, xi v2)] [] h R H' := by
  unfold f_B_years_e at hf
  refine xs_aload_n d125_0 rfl ?_
  refine xe_getc (j := 0) d125_1 ky125 fl153 fk11_6 rfl ?_
  refine xe_getc (j := 0) d125_4 ky125 fl96 fk4_0 rfl ?_
  refine xe_geti d125_7 ky125 fl19 fk8_0 ?_
  rcases lk_if hf with ⟨hc1, hf⟩ | ⟨hc1, hf⟩
  · refine xs_if_eq (tgt := 24) d125_10 (by decide) (fun _ => ?_) (fun hn => absurd hc1 hn)
    refine xs_iconst (v := -1) d125_24 (by decide) ?_
    obtain ⟨eR, eH⟩ := K0 _ _ (Option.some.inj hf).symm
    subst eR; subst eH
    exact xs_iret d125_25 rt125
  · refine xs_if_eq (tgt := 24) d125_10 (by decide) (fun hp => absurd hp hc1) (fun _ => ?_)
    refine xs_iload_n d125_13 rfl ?_
    refine xs_iconst (v := 1) d125_14 (by decide) ?_
    rcases lk_if hf with ⟨hc2, hf⟩ | ⟨hc2, hf⟩
    · refine xs_icmp_lt (tgt := 24) d125_15 (by decide) (fun _ => ?_) (fun hn => absurd hc2 hn)
      refine xs_iconst (v := -1) d125_24 (by decide) ?_
      obtain ⟨eR, eH⟩ := K0 _ _ (Option.some.inj hf).symm
      subst eR; subst eH
      exact xs_iret d125_25 rt125
    · refine xs_icmp_lt (tgt := 24) d125_15 (by decide) (fun hp => absurd hp hc2) (fun _ => ?_)
      refine xs_iload_n d125_18 rfl ?_
      refine xs_bipush (v := 20) d125_19 (by decide) ?_
      rcases lk_if hf with ⟨hc3, hf⟩ | ⟨hc3, hf⟩
      · refine xs_icmp_le (tgt := 26) d125_21 (by decide) (fun _ => ?_) (fun hn => absurd hc3 hn)
        refine xs_iload_n d125_26 rfl ?_
        rcases lk_if hf with ⟨hc4, hf⟩ | ⟨hc4, hf⟩
        · refine xs_if_lt (tgt := 35) d125_27 (by decide) (fun _ => ?_) (fun hn => absurd hc4 hn)
          refine xs_iconst (v := -1) d125_35 (by decide) ?_
          obtain ⟨eR, eH⟩ := K0 _ _ (Option.some.inj hf).symm
          subst eR; subst eH
          exact xs_iret d125_36 rt125
        · refine xs_if_lt (tgt := 35) d125_27 (by decide) (fun hp => absurd hp hc4) (fun _ => ?_)
          refine xs_iload_n d125_30 rfl ?_
          refine xs_iconst (v := 1) d125_31 (by decide) ?_
          rcases lk_if hf with ⟨hc5, hf⟩ | ⟨hc5, hf⟩
          · refine xs_icmp_le (tgt := 37) d125_32 (by decide) (fun _ => ?_) (fun hn => absurd hc5 hn)
            refine xs_iconst (v := 0) d125_37 (by decide) ?_
            refine xe_istore_n (v := (0 : Int32)) (ls2 := [(0, xr 11 (some 0)), (1, xi v1), (2, xi v2), (3, xi (0 : Int32))]) d125_38 mx125 (by decide) rfl rfl ?_
            refine xs_aload_n d125_39 rfl ?_
            refine xe_getc (j := 0) d125_40 ky125 fl153 fk11_6 rfl ?_
            refine xe_geti d125_43 ky125 fl102 fk4_3 ?_
            obtain ⟨v4_6, ev4_6, hf⟩ := lk_let hf
            refine xe_istore (v := v4_6) (ls2 := [(0, xr 11 (some 0)), (1, xi v1), (2, xi v2), (3, xi (0 : Int32)), (4, xi v4_6)]) d125_46 mx125 (by decide) ev4_6 rfl ?_
            refine xs_iconst (v := 0) d125_48 (by decide) ?_
            refine xe_istore (v := (0 : Int32)) (ls2 := [(0, xr 11 (some 0)), (1, xi v1), (2, xi v2), (3, xi (0 : Int32)), (4, xi v4_6), (5, xi (0 : Int32))]) d125_49 mx125 (by decide) rfl rfl ?_
            exact f_B_years_l51_ok hD hf K0
          · refine xs_icmp_le (tgt := 37) d125_32 (by decide) (fun hp => absurd hp hc5) (fun _ => ?_)
            refine xs_iconst (v := -1) d125_35 (by decide) ?_
            obtain ⟨eR, eH⟩ := K0 _ _ (Option.some.inj hf).symm
            subst eR; subst eH
            exact xs_iret d125_36 rt125
      · refine xs_icmp_le (tgt := 26) d125_21 (by decide) (fun hp => absurd hp hc3) (fun _ => ?_)
        refine xs_iconst (v := -1) d125_24 (by decide) ?_
        obtain ⟨eR, eH⟩ := K0 _ _ (Option.some.inj hf).symm
        subst eR; subst eH
        exact xs_iret d125_25 rt125
noncomputable def f_B_years (v1 : Int32) (v2 : Int32) (h : xH) : Option (Int32 × xH) := f_B_years_e v1 v2 h
theorem f_B_years_ok {g : xG} {l : Launch} {d : Nat} {v1 : Int32} {v2 : Int32} {h : xH} {r : Int32} {h1 : xH} (hD : 4 ≤ d) (hf : f_B_years v1 v2 h = some (r, h1)) : xC g l d 125 [xr 11 (some 0), xi v1, xi v2] h (some (xi r)) h1 :=
  xC_of2 (by decide) mx125 (Nat.le_of_ble_eq_true rfl) (f_B_years_e_ok hD hf (fun _ _ e => by cases e; exact ⟨rfl, rfl⟩))
theorem d129_0 : decode (xcode 129) 0 = .ok (.iload_n 1, 1) := by decide +kernel
theorem d129_1 : decode (xcode 129) 1 = .ok (.tableswitch 128 9 15 #[43, 54, 75, 96, 104, 112, 120], 43) := by decide +kernel
theorem d129_44 : decode (xcode 129) 44 = .ok (.aload_n 0, 1) := by decide +kernel
theorem d129_45 : decode (xcode 129) 45 = .ok (.getfield 55, 3) := by decide +kernel
theorem d129_48 : decode (xcode 129) 48 = .ok (.getfield 121, 3) := by decide +kernel
theorem d129_51 : decode (xcode 129) 51 = .ok (.invokevirtual 341, 3) := by decide +kernel
theorem d129_54 : decode (xcode 129) 54 = .ok (.ireturn, 1) := by decide +kernel
theorem d129_55 : decode (xcode 129) 55 = .ok (.aload_n 0, 1) := by decide +kernel
theorem d129_56 : decode (xcode 129) 56 = .ok (.getfield 55, 3) := by decide +kernel
theorem d129_59 : decode (xcode 129) 59 = .ok (.getfield 114, 3) := by decide +kernel
theorem d129_62 : decode (xcode 129) 62 = .ok (.aload_n 0, 1) := by decide +kernel
theorem d129_63 : decode (xcode 129) 63 = .ok (.getfield 55, 3) := by decide +kernel
theorem d129_66 : decode (xcode 129) 66 = .ok (.getfield 121, 3) := by decide +kernel
theorem d129_69 : decode (xcode 129) 69 = .ok (.getfield 218, 3) := by decide +kernel
theorem d129_72 : decode (xcode 129) 72 = .ok (.invokevirtual 221, 3) := by decide +kernel
theorem d129_75 : decode (xcode 129) 75 = .ok (.ireturn, 1) := by decide +kernel
theorem d129_76 : decode (xcode 129) 76 = .ok (.aload_n 0, 1) := by decide +kernel
theorem d129_77 : decode (xcode 129) 77 = .ok (.getfield 55, 3) := by decide +kernel
theorem d129_80 : decode (xcode 129) 80 = .ok (.getfield 121, 3) := by decide +kernel
theorem d129_83 : decode (xcode 129) 83 = .ok (.aload_n 0, 1) := by decide +kernel
theorem d129_84 : decode (xcode 129) 84 = .ok (.getfield 55, 3) := by decide +kernel
theorem d129_87 : decode (xcode 129) 87 = .ok (.getfield 114, 3) := by decide +kernel
theorem d129_90 : decode (xcode 129) 90 = .ok (.getfield 224, 3) := by decide +kernel
theorem d129_93 : decode (xcode 129) 93 = .ok (.invokevirtual 227, 3) := by decide +kernel
theorem d129_96 : decode (xcode 129) 96 = .ok (.ireturn, 1) := by decide +kernel
theorem d129_97 : decode (xcode 129) 97 = .ok (.aload_n 0, 1) := by decide +kernel
theorem d129_98 : decode (xcode 129) 98 = .ok (.getfield 55, 3) := by decide +kernel
theorem d129_101 : decode (xcode 129) 101 = .ok (.getfield 130, 3) := by decide +kernel
theorem d129_104 : decode (xcode 129) 104 = .ok (.ireturn, 1) := by decide +kernel
theorem d129_105 : decode (xcode 129) 105 = .ok (.aload_n 0, 1) := by decide +kernel
theorem d129_106 : decode (xcode 129) 106 = .ok (.getfield 70, 3) := by decide +kernel
theorem d129_109 : decode (xcode 129) 109 = .ok (.getfield 212, 3) := by decide +kernel
theorem d129_112 : decode (xcode 129) 112 = .ok (.ireturn, 1) := by decide +kernel
theorem d129_113 : decode (xcode 129) 113 = .ok (.aload_n 0, 1) := by decide +kernel
theorem d129_114 : decode (xcode 129) 114 = .ok (.getfield 55, 3) := by decide +kernel
theorem d129_117 : decode (xcode 129) 117 = .ok (.getfield 329, 3) := by decide +kernel
theorem d129_120 : decode (xcode 129) 120 = .ok (.ireturn, 1) := by decide +kernel
theorem d129_121 : decode (xcode 129) 121 = .ok (.aload_n 0, 1) := by decide +kernel
theorem d129_122 : decode (xcode 129) 122 = .ok (.getfield 10, 3) := by decide +kernel
theorem d129_125 : decode (xcode 129) 125 = .ok (.getfield 107, 3) := by decide +kernel
theorem d129_128 : decode (xcode 129) 128 = .ok (.ireturn, 1) := by decide +kernel
theorem d129_129 : decode (xcode 129) 129 = .ok (.iconst (-1), 1) := by decide +kernel
theorem d129_130 : decode (xcode 129) 130 = .ok (.ireturn, 1) := by decide +kernel
noncomputable def f_B_countMore_e (v1 : Int32) (h : xH) : Option Int32 :=
  if v1 = (9 : Int32) then (
  (f_State_looseBits 0 h).bind fun r2 =>
  some (r2)) else (
  if v1 = (10 : Int32) then (
  (f_Told_deepOf 0 (h.1 6 3 0) h).bind fun r5 =>
  some (r5)) else (
  if v1 = (11 : Int32) then (
  (f_State_load 0 (h.1 8 2 0) h).bind fun r8 =>
  some (r8)) else (
  if v1 = (12 : Int32) then (
  some (h.1 4 4 0)) else (
  if v1 = (13 : Int32) then (
  some (h.1 1 2 0)) else (
  if v1 = (14 : Int32) then (
  some (h.1 4 3 0)) else (
  if v1 = (15 : Int32) then (
  some (h.1 7 6 0)) else (
  some ((-1 : Int32)))))))))
set_option maxHeartbeats 4000000 in
set_option maxRecDepth 100000 in
theorem f_B_countMore_e_ok {g : xG} {l : Launch} {d : Nat} {v1 : Int32} {h : xH} {o : Int32} {R : Option xV} (hD : 3 ≤ d) (hf : f_B_countMore_e v1 h = some o) (K0 : ∀ (a : Int32), o = a → R = some (xi a)) : xEv g l d 129 0 [(0, xr 11 (some 0)), (1, xi v1)] [] h R h := by
  unfold f_B_countMore_e at hf
  refine xs_iload_n d129_0 rfl ?_
  rcases lk_if hf with ⟨hc1, hf⟩ | ⟨hc1, hf⟩
  · refine xs_tableIn (tgt := 44) d129_1 (by rw [hc1]; decide) (by rw [hc1]; decide) (by rw [hc1]; first | done | rfl) (by decide) ?_
    refine xs_aload_n d129_44 rfl ?_
    refine xe_getc (j := 0) d129_45 ky129 fl153 fk11_6 rfl ?_
    refine xe_getc (j := 0) d129_48 ky129 fl98 fk4_1 rfl ?_
    obtain ⟨r2, hc3, hf⟩ := lk_b hf
    refine xe_callv1 (as := []) (st := []) (h2 := h) (d2 := d - 1) d129_51 ky129 ml173 st51 (by decide) cn51 rfl na51 (Nat.le_of_ble_eq_true rfl) (by omega) (f_State_looseBits_ok (by omega) hc3) ?_
    obtain eR := K0 _ (Option.some.inj hf).symm
    subst eR
    exact xs_iret d129_54 rt129
  · skip
    rcases lk_if hf with ⟨hc4, hf⟩ | ⟨hc4, hf⟩
    · refine xs_tableIn (tgt := 55) d129_1 (by rw [hc4]; decide) (by rw [hc4]; decide) (by rw [hc4]; first | done | rfl) (by decide) ?_
      refine xs_aload_n d129_55 rfl ?_
      refine xe_getc (j := 0) d129_56 ky129 fl153 fk11_6 rfl ?_
      refine xe_getc (j := 0) d129_59 ky129 fl96 fk4_0 rfl ?_
      refine xs_aload_n d129_62 rfl ?_
      refine xe_getc (j := 0) d129_63 ky129 fl153 fk11_6 rfl ?_
      refine xe_getc (j := 0) d129_66 ky129 fl98 fk4_1 rfl ?_
      refine xe_geti d129_69 ky129 fl81 fk6_3 ?_
      obtain ⟨r5, hc6, hf⟩ := lk_b hf
      refine xe_callv1 (as := [xi (h.1 6 3 0)]) (st := []) (h2 := h) (d2 := d - 1) d129_72 ky129 ml103 st77 (by decide) cn77 rfl na77 (Nat.le_of_ble_eq_true rfl) (by omega) (f_Told_deepOf_ok (by omega) hc6) ?_
      obtain eR := K0 _ (Option.some.inj hf).symm
      subst eR
      exact xs_iret d129_75 rt129
    · skip
      rcases lk_if hf with ⟨hc7, hf⟩ | ⟨hc7, hf⟩
      · refine xs_tableIn (tgt := 76) d129_1 (by rw [hc7]; decide) (by rw [hc7]; decide) (by rw [hc7]; first | done | rfl) (by decide) ?_
        refine xs_aload_n d129_76 rfl ?_
        refine xe_getc (j := 0) d129_77 ky129 fl153 fk11_6 rfl ?_
        refine xe_getc (j := 0) d129_80 ky129 fl98 fk4_1 rfl ?_
        refine xs_aload_n d129_83 rfl ?_
        refine xe_getc (j := 0) d129_84 ky129 fl153 fk11_6 rfl ?_
        refine xe_getc (j := 0) d129_87 ky129 fl96 fk4_0 rfl ?_
        refine xe_geti d129_90 ky129 fl28 fk8_2 ?_
        obtain ⟨r8, hc9, hf⟩ := lk_b hf
        refine xe_callv1 (as := [xi (h.1 8 2 0)]) (st := []) (h2 := h) (d2 := d - 1) d129_93 ky129 ml104 st52 (by decide) cn52 rfl na52 (Nat.le_of_ble_eq_true rfl) (by omega) (f_State_load_ok (by omega) hc9) ?_
        obtain eR := K0 _ (Option.some.inj hf).symm
        subst eR
        exact xs_iret d129_96 rt129
      · skip
        rcases lk_if hf with ⟨hc10, hf⟩ | ⟨hc10, hf⟩
        · refine xs_tableIn (tgt := 97) d129_1 (by rw [hc10]; decide) (by rw [hc10]; decide) (by rw [hc10]; first | done | rfl) (by decide) ?_
          refine xs_aload_n d129_97 rfl ?_
          refine xe_getc (j := 0) d129_98 ky129 fl153 fk11_6 rfl ?_
          refine xe_geti d129_101 ky129 fl104 fk4_4 ?_
          obtain eR := K0 _ (Option.some.inj hf).symm
          subst eR
          exact xs_iret d129_104 rt129
        · skip
          rcases lk_if hf with ⟨hc11, hf⟩ | ⟨hc11, hf⟩
          · refine xs_tableIn (tgt := 105) d129_1 (by rw [hc11]; decide) (by rw [hc11]; decide) (by rw [hc11]; first | done | rfl) (by decide) ?_
            refine xs_aload_n d129_105 rfl ?_
            refine xe_getc (j := 0) d129_106 ky129 fl156 fk11_9 rfl ?_
            refine xe_geti d129_109 ky129 fl110 fk1_2 ?_
            obtain eR := K0 _ (Option.some.inj hf).symm
            subst eR
            exact xs_iret d129_112 rt129
          · skip
            rcases lk_if hf with ⟨hc12, hf⟩ | ⟨hc12, hf⟩
            · refine xs_tableIn (tgt := 113) d129_1 (by rw [hc12]; decide) (by rw [hc12]; decide) (by rw [hc12]; first | done | rfl) (by decide) ?_
              refine xs_aload_n d129_113 rfl ?_
              refine xe_getc (j := 0) d129_114 ky129 fl153 fk11_6 rfl ?_
              refine xe_geti d129_117 ky129 fl102 fk4_3 ?_
              obtain eR := K0 _ (Option.some.inj hf).symm
              subst eR
              exact xs_iret d129_120 rt129
            · skip
              rcases lk_if hf with ⟨hc13, hf⟩ | ⟨hc13, hf⟩
              · refine xs_tableIn (tgt := 121) d129_1 (by rw [hc13]; decide) (by rw [hc13]; decide) (by rw [hc13]; first | done | rfl) (by decide) ?_
                refine xs_aload_n d129_121 rfl ?_
                refine xe_getc (j := 0) d129_122 ky129 fl147 fk11_0 rfl ?_
                refine xe_geti d129_125 ky129 fl7 fk7_6 ?_
                obtain eR := K0 _ (Option.some.inj hf).symm
                subst eR
                exact xs_iret d129_128 rt129
              · skip
                refine xs_tableOut (tgt := 129) d129_1 (xsw_out (fun k q1 q2 => ?_)) (by decide) ?_
                · rcases (show k = 9 ∨ k = 10 ∨ k = 11 ∨ k = 12 ∨ k = 13 ∨ k = 14 ∨ k = 15 by omega) with rfl | rfl | rfl | rfl | rfl | rfl | rfl
                  · exact fun e => hc1 (e.trans (by decide))
                  · exact fun e => hc4 (e.trans (by decide))
                  · exact fun e => hc7 (e.trans (by decide))
                  · exact fun e => hc10 (e.trans (by decide))
                  · exact fun e => hc11 (e.trans (by decide))
                  · exact fun e => hc12 (e.trans (by decide))
                  · exact fun e => hc13 (e.trans (by decide))
                · skip
                  refine xs_iconst (v := -1) d129_129 (by decide) ?_
                  obtain eR := K0 _ (Option.some.inj hf).symm
                  subst eR
                  exact xs_iret d129_130 rt129
noncomputable def f_B_countMore (v1 : Int32) (h : xH) : Option Int32 := f_B_countMore_e v1 h
theorem f_B_countMore_ok {g : xG} {l : Launch} {d : Nat} {v1 : Int32} {h : xH} {r : Int32} (hD : 3 ≤ d) (hf : f_B_countMore v1 h = some r) : xC g l d 129 [xr 11 (some 0), xi v1] h (some (xi r)) h :=
  xC_of2 (by decide) mx129 (Nat.le_of_ble_eq_true rfl) (f_B_countMore_e_ok hD hf (fun _ e => by rw [e]))
theorem d126_0 : decode (xcode 126) 0 = .ok (.iload_n 1, 1) := by decide +kernel
theorem d126_1 : decode (xcode 126) 1 = .ok (.tableswitch 141 0 8 #[51, 62, 73, 84, 95, 100, 108, 119, 130], 51) := by decide +kernel
theorem d126_52 : decode (xcode 126) 52 = .ok (.aload_n 0, 1) := by decide +kernel
theorem d126_53 : decode (xcode 126) 53 = .ok (.getfield 55, 3) := by decide +kernel
theorem d126_56 : decode (xcode 126) 56 = .ok (.getfield 114, 3) := by decide +kernel
theorem d126_59 : decode (xcode 126) 59 = .ok (.getfield 196, 3) := by decide +kernel
theorem d126_62 : decode (xcode 126) 62 = .ok (.ireturn, 1) := by decide +kernel
theorem d126_63 : decode (xcode 126) 63 = .ok (.aload_n 0, 1) := by decide +kernel
theorem d126_64 : decode (xcode 126) 64 = .ok (.getfield 55, 3) := by decide +kernel
theorem d126_67 : decode (xcode 126) 67 = .ok (.getfield 114, 3) := by decide +kernel
theorem d126_70 : decode (xcode 126) 70 = .ok (.getfield 224, 3) := by decide +kernel
theorem d126_73 : decode (xcode 126) 73 = .ok (.ireturn, 1) := by decide +kernel
theorem d126_74 : decode (xcode 126) 74 = .ok (.aload_n 0, 1) := by decide +kernel
theorem d126_75 : decode (xcode 126) 75 = .ok (.getfield 55, 3) := by decide +kernel
theorem d126_78 : decode (xcode 126) 78 = .ok (.getfield 114, 3) := by decide +kernel
theorem d126_81 : decode (xcode 126) 81 = .ok (.getfield 136, 3) := by decide +kernel
theorem d126_84 : decode (xcode 126) 84 = .ok (.ireturn, 1) := by decide +kernel
theorem d126_85 : decode (xcode 126) 85 = .ok (.aload_n 0, 1) := by decide +kernel
theorem d126_86 : decode (xcode 126) 86 = .ok (.getfield 55, 3) := by decide +kernel
theorem d126_89 : decode (xcode 126) 89 = .ok (.getfield 114, 3) := by decide +kernel
theorem d126_92 : decode (xcode 126) 92 = .ok (.getfield 167, 3) := by decide +kernel
theorem d126_95 : decode (xcode 126) 95 = .ok (.ireturn, 1) := by decide +kernel
theorem d126_96 : decode (xcode 126) 96 = .ok (.aload_n 0, 1) := by decide +kernel
theorem d126_97 : decode (xcode 126) 97 = .ok (.getfield 48, 3) := by decide +kernel
theorem d126_100 : decode (xcode 126) 100 = .ok (.ireturn, 1) := by decide +kernel
theorem d126_101 : decode (xcode 126) 101 = .ok (.aload_n 0, 1) := by decide +kernel
theorem d126_102 : decode (xcode 126) 102 = .ok (.getfield 55, 3) := by decide +kernel
theorem d126_105 : decode (xcode 126) 105 = .ok (.getfield 142, 3) := by decide +kernel
theorem d126_108 : decode (xcode 126) 108 = .ok (.ireturn, 1) := by decide +kernel
theorem d126_109 : decode (xcode 126) 109 = .ok (.aload_n 0, 1) := by decide +kernel
theorem d126_110 : decode (xcode 126) 110 = .ok (.getfield 55, 3) := by decide +kernel
theorem d126_113 : decode (xcode 126) 113 = .ok (.getfield 121, 3) := by decide +kernel
theorem d126_116 : decode (xcode 126) 116 = .ok (.getfield 203, 3) := by decide +kernel
theorem d126_119 : decode (xcode 126) 119 = .ok (.ireturn, 1) := by decide +kernel
theorem d126_120 : decode (xcode 126) 120 = .ok (.aload_n 0, 1) := by decide +kernel
theorem d126_121 : decode (xcode 126) 121 = .ok (.getfield 55, 3) := by decide +kernel
theorem d126_124 : decode (xcode 126) 124 = .ok (.getfield 121, 3) := by decide +kernel
theorem d126_127 : decode (xcode 126) 127 = .ok (.getfield 177, 3) := by decide +kernel
theorem d126_130 : decode (xcode 126) 130 = .ok (.ireturn, 1) := by decide +kernel
theorem d126_131 : decode (xcode 126) 131 = .ok (.aload_n 0, 1) := by decide +kernel
theorem d126_132 : decode (xcode 126) 132 = .ok (.getfield 55, 3) := by decide +kernel
theorem d126_135 : decode (xcode 126) 135 = .ok (.getfield 121, 3) := by decide +kernel
theorem d126_138 : decode (xcode 126) 138 = .ok (.getfield 230, 3) := by decide +kernel
theorem d126_141 : decode (xcode 126) 141 = .ok (.ireturn, 1) := by decide +kernel
theorem d126_142 : decode (xcode 126) 142 = .ok (.aload_n 0, 1) := by decide +kernel
theorem d126_143 : decode (xcode 126) 143 = .ok (.iload_n 1, 1) := by decide +kernel
theorem d126_144 : decode (xcode 126) 144 = .ok (.invokevirtual 335, 3) := by decide +kernel
theorem d126_147 : decode (xcode 126) 147 = .ok (.ireturn, 1) := by decide +kernel
noncomputable def f_B_count_e (v1 : Int32) (h : xH) : Option Int32 :=
  if v1 = (0 : Int32) then (
  some (h.1 8 1 0)) else (
  if v1 = (1 : Int32) then (
  some (h.1 8 2 0)) else (
  if v1 = (2 : Int32) then (
  some (h.1 8 3 0)) else (
  if v1 = (3 : Int32) then (
  some (h.1 8 4 0)) else (
  if v1 = (4 : Int32) then (
  some (h.1 11 5 0)) else (
  if v1 = (5 : Int32) then (
  some (h.1 4 2 0)) else (
  if v1 = (6 : Int32) then (
  some (h.1 6 0 0)) else (
  if v1 = (7 : Int32) then (
  some (h.1 6 1 0)) else (
  if v1 = (8 : Int32) then (
  some (h.1 6 2 0)) else (
  (f_B_countMore v1 h).bind fun r10 =>
  some (r10))))))))))
set_option maxHeartbeats 4000000 in
set_option maxRecDepth 100000 in
theorem f_B_count_e_ok {g : xG} {l : Launch} {d : Nat} {v1 : Int32} {h : xH} {o : Int32} {R : Option xV} (hD : 4 ≤ d) (hf : f_B_count_e v1 h = some o) (K0 : ∀ (a : Int32), o = a → R = some (xi a)) : xEv g l d 126 0 [(0, xr 11 (some 0)), (1, xi v1)] [] h R h := by
  unfold f_B_count_e at hf
  refine xs_iload_n d126_0 rfl ?_
  rcases lk_if hf with ⟨hc1, hf⟩ | ⟨hc1, hf⟩
  · refine xs_tableIn (tgt := 52) d126_1 (by rw [hc1]; decide) (by rw [hc1]; decide) (by rw [hc1]; first | done | rfl) (by decide) ?_
    refine xs_aload_n d126_52 rfl ?_
    refine xe_getc (j := 0) d126_53 ky126 fl153 fk11_6 rfl ?_
    refine xe_getc (j := 0) d126_56 ky126 fl96 fk4_0 rfl ?_
    refine xe_geti d126_59 ky126 fl24 fk8_1 ?_
    obtain eR := K0 _ (Option.some.inj hf).symm
    subst eR
    exact xs_iret d126_62 rt126
  · skip
    rcases lk_if hf with ⟨hc2, hf⟩ | ⟨hc2, hf⟩
    · refine xs_tableIn (tgt := 63) d126_1 (by rw [hc2]; decide) (by rw [hc2]; decide) (by rw [hc2]; first | done | rfl) (by decide) ?_
      refine xs_aload_n d126_63 rfl ?_
      refine xe_getc (j := 0) d126_64 ky126 fl153 fk11_6 rfl ?_
      refine xe_getc (j := 0) d126_67 ky126 fl96 fk4_0 rfl ?_
      refine xe_geti d126_70 ky126 fl28 fk8_2 ?_
      obtain eR := K0 _ (Option.some.inj hf).symm
      subst eR
      exact xs_iret d126_73 rt126
    · skip
      rcases lk_if hf with ⟨hc3, hf⟩ | ⟨hc3, hf⟩
      · refine xs_tableIn (tgt := 74) d126_1 (by rw [hc3]; decide) (by rw [hc3]; decide) (by rw [hc3]; first | done | rfl) (by decide) ?_
        refine xs_aload_n d126_74 rfl ?_
        refine xe_getc (j := 0) d126_75 ky126 fl153 fk11_6 rfl ?_
        refine xe_getc (j := 0) d126_78 ky126 fl96 fk4_0 rfl ?_
        refine xe_geti d126_81 ky126 fl32 fk8_3 ?_
        obtain eR := K0 _ (Option.some.inj hf).symm
        subst eR
        exact xs_iret d126_84 rt126
      · skip
        rcases lk_if hf with ⟨hc4, hf⟩ | ⟨hc4, hf⟩
        · refine xs_tableIn (tgt := 85) d126_1 (by rw [hc4]; decide) (by rw [hc4]; decide) (by rw [hc4]; first | done | rfl) (by decide) ?_
          refine xs_aload_n d126_85 rfl ?_
          refine xe_getc (j := 0) d126_86 ky126 fl153 fk11_6 rfl ?_
          refine xe_getc (j := 0) d126_89 ky126 fl96 fk4_0 rfl ?_
          refine xe_geti d126_92 ky126 fl36 fk8_4 ?_
          obtain eR := K0 _ (Option.some.inj hf).symm
          subst eR
          exact xs_iret d126_95 rt126
        · skip
          rcases lk_if hf with ⟨hc5, hf⟩ | ⟨hc5, hf⟩
          · refine xs_tableIn (tgt := 96) d126_1 (by rw [hc5]; decide) (by rw [hc5]; decide) (by rw [hc5]; first | done | rfl) (by decide) ?_
            refine xs_aload_n d126_96 rfl ?_
            refine xe_geti d126_97 ky126 fl152 fk11_5 ?_
            obtain eR := K0 _ (Option.some.inj hf).symm
            subst eR
            exact xs_iret d126_100 rt126
          · skip
            rcases lk_if hf with ⟨hc6, hf⟩ | ⟨hc6, hf⟩
            · refine xs_tableIn (tgt := 101) d126_1 (by rw [hc6]; decide) (by rw [hc6]; decide) (by rw [hc6]; first | done | rfl) (by decide) ?_
              refine xs_aload_n d126_101 rfl ?_
              refine xe_getc (j := 0) d126_102 ky126 fl153 fk11_6 rfl ?_
              refine xe_geti d126_105 ky126 fl100 fk4_2 ?_
              obtain eR := K0 _ (Option.some.inj hf).symm
              subst eR
              exact xs_iret d126_108 rt126
            · skip
              rcases lk_if hf with ⟨hc7, hf⟩ | ⟨hc7, hf⟩
              · refine xs_tableIn (tgt := 109) d126_1 (by rw [hc7]; decide) (by rw [hc7]; decide) (by rw [hc7]; first | done | rfl) (by decide) ?_
                refine xs_aload_n d126_109 rfl ?_
                refine xe_getc (j := 0) d126_110 ky126 fl153 fk11_6 rfl ?_
                refine xe_getc (j := 0) d126_113 ky126 fl98 fk4_1 rfl ?_
                refine xe_geti d126_116 ky126 fl70 fk6_0 ?_
                obtain eR := K0 _ (Option.some.inj hf).symm
                subst eR
                exact xs_iret d126_119 rt126
              · skip
                rcases lk_if hf with ⟨hc8, hf⟩ | ⟨hc8, hf⟩
                · refine xs_tableIn (tgt := 120) d126_1 (by rw [hc8]; decide) (by rw [hc8]; decide) (by rw [hc8]; first | done | rfl) (by decide) ?_
                  refine xs_aload_n d126_120 rfl ?_
                  refine xe_getc (j := 0) d126_121 ky126 fl153 fk11_6 rfl ?_
                  refine xe_getc (j := 0) d126_124 ky126 fl98 fk4_1 rfl ?_
                  refine xe_geti d126_127 ky126 fl73 fk6_1 ?_
                  obtain eR := K0 _ (Option.some.inj hf).symm
                  subst eR
                  exact xs_iret d126_130 rt126
                · skip
                  rcases lk_if hf with ⟨hc9, hf⟩ | ⟨hc9, hf⟩
                  · refine xs_tableIn (tgt := 131) d126_1 (by rw [hc9]; decide) (by rw [hc9]; decide) (by rw [hc9]; first | done | rfl) (by decide) ?_
                    refine xs_aload_n d126_131 rfl ?_
                    refine xe_getc (j := 0) d126_132 ky126 fl153 fk11_6 rfl ?_
                    refine xe_getc (j := 0) d126_135 ky126 fl98 fk4_1 rfl ?_
                    refine xe_geti d126_138 ky126 fl78 fk6_2 ?_
                    obtain eR := K0 _ (Option.some.inj hf).symm
                    subst eR
                    exact xs_iret d126_141 rt126
                  · skip
                    refine xs_tableOut (tgt := 142) d126_1 (xsw_out (fun k q1 q2 => ?_)) (by decide) ?_
                    · rcases (show k = 0 ∨ k = 1 ∨ k = 2 ∨ k = 3 ∨ k = 4 ∨ k = 5 ∨ k = 6 ∨ k = 7 ∨ k = 8 by omega) with rfl | rfl | rfl | rfl | rfl | rfl | rfl | rfl | rfl
                      · exact fun e => hc1 (e.trans (by decide))
                      · exact fun e => hc2 (e.trans (by decide))
                      · exact fun e => hc3 (e.trans (by decide))
                      · exact fun e => hc4 (e.trans (by decide))
                      · exact fun e => hc5 (e.trans (by decide))
                      · exact fun e => hc6 (e.trans (by decide))
                      · exact fun e => hc7 (e.trans (by decide))
                      · exact fun e => hc8 (e.trans (by decide))
                      · exact fun e => hc9 (e.trans (by decide))
                    · skip
                      refine xs_aload_n d126_142 rfl ?_
                      refine xs_iload_n d126_143 rfl ?_
                      obtain ⟨r10, hc11, hf⟩ := lk_b hf
                      refine xe_callv1 (as := [xi v1]) (st := []) (h2 := h) (d2 := d - 1) d126_144 ky126 ml172 st129 (by decide) cn129 rfl na129 (Nat.le_of_ble_eq_true rfl) (by omega) (f_B_countMore_ok (by omega) hc11) ?_
                      obtain eR := K0 _ (Option.some.inj hf).symm
                      subst eR
                      exact xs_iret d126_147 rt126
noncomputable def f_B_count (v1 : Int32) (h : xH) : Option Int32 := f_B_count_e v1 h
theorem f_B_count_ok {g : xG} {l : Launch} {d : Nat} {v1 : Int32} {h : xH} {r : Int32} (hD : 4 ≤ d) (hf : f_B_count v1 h = some r) : xC g l d 126 [xr 11 (some 0), xi v1] h (some (xi r)) h :=
  xC_of2 (by decide) mx126 (Nat.le_of_ble_eq_true rfl) (f_B_count_e_ok hD hf (fun _ e => by rw [e]))
theorem d127_0 : decode (xcode 127) 0 = .ok (.iload_n 1, 1) := by decide +kernel
theorem d127_1 : decode (xcode 127) 1 = .ok (.ifCond .lt 8, 3) := by decide +kernel
theorem d127_4 : decode (xcode 127) 4 = .ok (.iload_n 1, 1) := by decide +kernel
theorem d127_5 : decode (xcode 127) 5 = .ok (.iconst 4, 1) := by decide +kernel
theorem d127_6 : decode (xcode 127) 6 = .ok (.if_icmp .lt 5, 3) := by decide +kernel
theorem d127_9 : decode (xcode 127) 9 = .ok (.iconst (-1), 1) := by decide +kernel
theorem d127_10 : decode (xcode 127) 10 = .ok (.ireturn, 1) := by decide +kernel
theorem d127_11 : decode (xcode 127) 11 = .ok (.aload_n 0, 1) := by decide +kernel
theorem d127_12 : decode (xcode 127) 12 = .ok (.getfield 59, 3) := by decide +kernel
theorem d127_15 : decode (xcode 127) 15 = .ok (.iload_n 1, 1) := by decide +kernel
theorem d127_16 : decode (xcode 127) 16 = .ok (.aaload, 1) := by decide +kernel
theorem d127_17 : decode (xcode 127) 17 = .ok (.aload_n 0, 1) := by decide +kernel
theorem d127_18 : decode (xcode 127) 18 = .ok (.getfield 55, 3) := by decide +kernel
theorem d127_21 : decode (xcode 127) 21 = .ok (.invokevirtual 338, 3) := by decide +kernel
theorem d127_24 : decode (xcode 127) 24 = .ok (.aload_n 0, 1) := by decide +kernel
theorem d127_25 : decode (xcode 127) 25 = .ok (.getfield 63, 3) := by decide +kernel
theorem d127_28 : decode (xcode 127) 28 = .ok (.iload_n 1, 1) := by decide +kernel
theorem d127_29 : decode (xcode 127) 29 = .ok (.iconst 1, 1) := by decide +kernel
theorem d127_30 : decode (xcode 127) 30 = .ok (.bastore, 1) := by decide +kernel
theorem d127_31 : decode (xcode 127) 31 = .ok (.aload_n 0, 1) := by decide +kernel
theorem d127_32 : decode (xcode 127) 32 = .ok (.getfield 55, 3) := by decide +kernel
theorem d127_35 : decode (xcode 127) 35 = .ok (.getfield 121, 3) := by decide +kernel
theorem d127_38 : decode (xcode 127) 38 = .ok (.getfield 203, 3) := by decide +kernel
theorem d127_41 : decode (xcode 127) 41 = .ok (.ireturn, 1) := by decide +kernel
noncomputable def f_B_image_e (v1 : Int32) (h : xH) : Option (Int32 × xH) :=
  if v1 < (0 : Int32) then (
  some (((-1 : Int32), h))) else (
  if v1 < (4 : Int32) then (
  if xib v1 4 then (
  (f_Scene_copyFrom (1 + (v1).toNatClampNeg) 0 h).bind fun h6 =>
  if xib v1 4 then (
  xlet (xsA h6 45 0 (upd (h6.2.2.2.1 45 0) (v1).toNatClampNeg (1 : Int32))) fun h8 =>
  some ((h8.1 6 0 0, h8))) else none) else none) else (
  some (((-1 : Int32), h))))
set_option maxHeartbeats 4000000 in
set_option maxRecDepth 100000 in
theorem f_B_image_e_ok {g : xG} {l : Launch} {d : Nat} {v1 : Int32} {h : xH} {o : (Int32 × xH)} {R : Option xV} {H' : xH} (hD : 3 ≤ d) (hf : f_B_image_e v1 h = some o) (K0 : ∀ (a : Int32) (h1 : xH), o = (a, h1) → R = some (xi a) ∧ H' = h1) : xEv g l d 127 0 [(0, xr 11 (some 0)), (1, xi v1)] [] h R H' := by
  unfold f_B_image_e at hf
  refine xs_iload_n d127_0 rfl ?_
  rcases lk_if hf with ⟨hc1, hf⟩ | ⟨hc1, hf⟩
  · refine xs_if_lt (tgt := 9) d127_1 (by decide) (fun _ => ?_) (fun hn => absurd hc1 hn)
    refine xs_iconst (v := -1) d127_9 (by decide) ?_
    obtain ⟨eR, eH⟩ := K0 _ _ (Option.some.inj hf).symm
    subst eR; subst eH
    exact xs_iret d127_10 rt127
  · refine xs_if_lt (tgt := 9) d127_1 (by decide) (fun hp => absurd hp hc1) (fun _ => ?_)
    refine xs_iload_n d127_4 rfl ?_
    refine xs_iconst (v := 4) d127_5 (by decide) ?_
    rcases lk_if hf with ⟨hc2, hf⟩ | ⟨hc2, hf⟩
    · refine xs_icmp_lt (tgt := 11) d127_6 (by decide) (fun _ => ?_) (fun hn => absurd hc2 hn)
      refine xs_aload_n d127_11 rfl ?_
      refine xe_getc (j := 0) d127_12 ky127 fl154 fk11_7 rfl ?_
      refine xs_iload_n d127_15 rfl ?_
      obtain ⟨hin3, hf⟩ := lk_g hf
      refine xe_aald d127_16 (by decide) ak44 ⟨by decide, by decide, by decide⟩ hin3 ?_
      refine xs_aload_n d127_17 rfl ?_
      refine xe_getc (j := 0) d127_18 ky127 fl153 fk11_6 rfl ?_
      obtain ⟨h6, hc5, hf⟩ := lk_b hf
      refine xe_callv0 (as := [xr 4 (some 0)]) (st := []) (h2 := h6) (d2 := d - 1) d127_21 ky127 ml175 st24 (by decide) cn24 rfl na24 (Nat.le_of_ble_eq_true rfl) (by omega) (f_Scene_copyFrom_ok (by omega) hc5) ?_
      refine xs_aload_n d127_24 rfl ?_
      refine xe_getc (j := 0) d127_25 ky127 fl155 fk11_8 rfl ?_
      refine xs_iload_n d127_28 rfl ?_
      refine xs_iconst (v := 1) d127_29 (by decide) ?_
      obtain ⟨hin7, hf⟩ := lk_g hf
      obtain ⟨h8, eh8, hf⟩ := lk_let hf
      refine xe_zast d127_30 (by decide) ak45 hin7 (Or.inr rfl) eh8 ?_
      refine xs_aload_n d127_31 rfl ?_
      refine xe_getc (j := 0) d127_32 ky127 fl153 fk11_6 rfl ?_
      refine xe_getc (j := 0) d127_35 ky127 fl98 fk4_1 rfl ?_
      refine xe_geti d127_38 ky127 fl70 fk6_0 ?_
      obtain ⟨eR, eH⟩ := K0 _ _ (Option.some.inj hf).symm
      subst eR; subst eH
      exact xs_iret d127_41 rt127
    · refine xs_icmp_lt (tgt := 11) d127_6 (by decide) (fun hp => absurd hp hc2) (fun _ => ?_)
      refine xs_iconst (v := -1) d127_9 (by decide) ?_
      obtain ⟨eR, eH⟩ := K0 _ _ (Option.some.inj hf).symm
      subst eR; subst eH
      exact xs_iret d127_10 rt127
noncomputable def f_B_image (v1 : Int32) (h : xH) : Option (Int32 × xH) := f_B_image_e v1 h
theorem f_B_image_ok {g : xG} {l : Launch} {d : Nat} {v1 : Int32} {h : xH} {r : Int32} {h1 : xH} (hD : 3 ≤ d) (hf : f_B_image v1 h = some (r, h1)) : xC g l d 127 [xr 11 (some 0), xi v1] h (some (xi r)) h1 :=
  xC_of2 (by decide) mx127 (Nat.le_of_ble_eq_true rfl) (f_B_image_e_ok hD hf (fun _ _ e => by cases e; exact ⟨rfl, rfl⟩))
theorem d128_0 : decode (xcode 128) 0 = .ok (.iload_n 1, 1) := by decide +kernel
theorem d128_1 : decode (xcode 128) 1 = .ok (.ifCond .lt 17, 3) := by decide +kernel
theorem d128_4 : decode (xcode 128) 4 = .ok (.iload_n 1, 1) := by decide +kernel
theorem d128_5 : decode (xcode 128) 5 = .ok (.iconst 4, 1) := by decide +kernel
theorem d128_6 : decode (xcode 128) 6 = .ok (.if_icmp .ge 12, 3) := by decide +kernel
theorem d128_9 : decode (xcode 128) 9 = .ok (.aload_n 0, 1) := by decide +kernel
theorem d128_10 : decode (xcode 128) 10 = .ok (.getfield 63, 3) := by decide +kernel
theorem d128_13 : decode (xcode 128) 13 = .ok (.iload_n 1, 1) := by decide +kernel
theorem d128_14 : decode (xcode 128) 14 = .ok (.baload, 1) := by decide +kernel
theorem d128_15 : decode (xcode 128) 15 = .ok (.ifCond .ne 5, 3) := by decide +kernel
theorem d128_18 : decode (xcode 128) 18 = .ok (.iconst (-1), 1) := by decide +kernel
theorem d128_19 : decode (xcode 128) 19 = .ok (.ireturn, 1) := by decide +kernel
theorem d128_20 : decode (xcode 128) 20 = .ok (.aload_n 0, 1) := by decide +kernel
theorem d128_21 : decode (xcode 128) 21 = .ok (.getfield 55, 3) := by decide +kernel
theorem d128_24 : decode (xcode 128) 24 = .ok (.aload_n 0, 1) := by decide +kernel
theorem d128_25 : decode (xcode 128) 25 = .ok (.getfield 59, 3) := by decide +kernel
theorem d128_28 : decode (xcode 128) 28 = .ok (.iload_n 1, 1) := by decide +kernel
theorem d128_29 : decode (xcode 128) 29 = .ok (.aaload, 1) := by decide +kernel
theorem d128_30 : decode (xcode 128) 30 = .ok (.invokevirtual 338, 3) := by decide +kernel
theorem d128_33 : decode (xcode 128) 33 = .ok (.aload_n 0, 1) := by decide +kernel
theorem d128_34 : decode (xcode 128) 34 = .ok (.getfield 70, 3) := by decide +kernel
theorem d128_37 : decode (xcode 128) 37 = .ok (.invokevirtual 133, 3) := by decide +kernel
theorem d128_40 : decode (xcode 128) 40 = .ok (.aload_n 0, 1) := by decide +kernel
theorem d128_41 : decode (xcode 128) 41 = .ok (.getfield 55, 3) := by decide +kernel
theorem d128_44 : decode (xcode 128) 44 = .ok (.getfield 121, 3) := by decide +kernel
theorem d128_47 : decode (xcode 128) 47 = .ok (.getfield 203, 3) := by decide +kernel
theorem d128_50 : decode (xcode 128) 50 = .ok (.ireturn, 1) := by decide +kernel
noncomputable def f_B_back_e (v1 : Int32) (h : xH) : Option (Int32 × xH) :=
  if v1 < (0 : Int32) then (
  some (((-1 : Int32), h))) else (
  if (4 : Int32) ≤ v1 then (
  some (((-1 : Int32), h))) else (
  if xib v1 4 then (
  if (h.2.2.2.1 45 0 (v1).toNatClampNeg) = (0 : Int32) then (
  some (((-1 : Int32), h))) else (
  if xib v1 4 then (
  (f_Scene_copyFrom 0 (1 + (v1).toNatClampNeg) h).bind fun h8 =>
  (f_Past_forget h8).bind fun h11 =>
  some ((h11.1 6 0 0, h11))) else none)) else none))
set_option maxHeartbeats 4000000 in
set_option maxRecDepth 100000 in
theorem f_B_back_e_ok {g : xG} {l : Launch} {d : Nat} {v1 : Int32} {h : xH} {o : (Int32 × xH)} {R : Option xV} {H' : xH} (hD : 3 ≤ d) (hf : f_B_back_e v1 h = some o) (K0 : ∀ (a : Int32) (h1 : xH), o = (a, h1) → R = some (xi a) ∧ H' = h1) : xEv g l d 128 0 [(0, xr 11 (some 0)), (1, xi v1)] [] h R H' := by
  unfold f_B_back_e at hf
  refine xs_iload_n d128_0 rfl ?_
  rcases lk_if hf with ⟨hc1, hf⟩ | ⟨hc1, hf⟩
  · refine xs_if_lt (tgt := 18) d128_1 (by decide) (fun _ => ?_) (fun hn => absurd hc1 hn)
    refine xs_iconst (v := -1) d128_18 (by decide) ?_
    obtain ⟨eR, eH⟩ := K0 _ _ (Option.some.inj hf).symm
    subst eR; subst eH
    exact xs_iret d128_19 rt128
  · refine xs_if_lt (tgt := 18) d128_1 (by decide) (fun hp => absurd hp hc1) (fun _ => ?_)
    refine xs_iload_n d128_4 rfl ?_
    refine xs_iconst (v := 4) d128_5 (by decide) ?_
    rcases lk_if hf with ⟨hc2, hf⟩ | ⟨hc2, hf⟩
    · refine xs_icmp_ge (tgt := 18) d128_6 (by decide) (fun _ => ?_) (fun hn => absurd hc2 hn)
      refine xs_iconst (v := -1) d128_18 (by decide) ?_
      obtain ⟨eR, eH⟩ := K0 _ _ (Option.some.inj hf).symm
      subst eR; subst eH
      exact xs_iret d128_19 rt128
    · refine xs_icmp_ge (tgt := 18) d128_6 (by decide) (fun hp => absurd hp hc2) (fun _ => ?_)
      refine xs_aload_n d128_9 rfl ?_
      refine xe_getc (j := 0) d128_10 ky128 fl155 fk11_8 rfl ?_
      refine xs_iload_n d128_13 rfl ?_
      obtain ⟨hin3, hf⟩ := lk_g hf
      refine xe_zald d128_14 (by decide) ak45 hin3 ?_
      rcases lk_if hf with ⟨hc4, hf⟩ | ⟨hc4, hf⟩
      · refine xs_if_ne (tgt := 20) d128_15 (by decide) (fun _ => ?_) (fun hn => absurd hc4 hn)
        refine xs_iconst (v := -1) d128_18 (by decide) ?_
        obtain ⟨eR, eH⟩ := K0 _ _ (Option.some.inj hf).symm
        subst eR; subst eH
        exact xs_iret d128_19 rt128
      · refine xs_if_ne (tgt := 20) d128_15 (by decide) (fun hp => absurd hp hc4) (fun _ => ?_)
        refine xs_aload_n d128_20 rfl ?_
        refine xe_getc (j := 0) d128_21 ky128 fl153 fk11_6 rfl ?_
        refine xs_aload_n d128_24 rfl ?_
        refine xe_getc (j := 0) d128_25 ky128 fl154 fk11_7 rfl ?_
        refine xs_iload_n d128_28 rfl ?_
        obtain ⟨hin5, hf⟩ := lk_g hf
        refine xe_aald d128_29 (by decide) ak44 ⟨by decide, by decide, by decide⟩ hin5 ?_
        obtain ⟨h8, hc7, hf⟩ := lk_b hf
        refine xe_callv0 (as := [xr 4 (some (1 + (v1).toNatClampNeg))]) (st := []) (h2 := h8) (d2 := d - 1) d128_30 ky128 ml175 st24 (by decide) cn24 rfl na24 (Nat.le_of_ble_eq_true rfl) (by omega) (f_Scene_copyFrom_ok (by omega) hc7) ?_
        refine xs_aload_n d128_33 rfl ?_
        refine xe_getc (j := 0) d128_34 ky128 fl156 fk11_9 rfl ?_
        obtain ⟨h11, hc10, hf⟩ := lk_b hf
        refine xe_callv0 (as := []) (st := []) (h2 := h11) (d2 := d - 1) d128_37 ky128 ml34 st5 (by decide) cn5 rfl na5 (Nat.le_of_ble_eq_true rfl) (by omega) (f_Past_forget_ok (by omega) hc10) ?_
        refine xs_aload_n d128_40 rfl ?_
        refine xe_getc (j := 0) d128_41 ky128 fl153 fk11_6 rfl ?_
        refine xe_getc (j := 0) d128_44 ky128 fl98 fk4_1 rfl ?_
        refine xe_geti d128_47 ky128 fl70 fk6_0 ?_
        obtain ⟨eR, eH⟩ := K0 _ _ (Option.some.inj hf).symm
        subst eR; subst eH
        exact xs_iret d128_50 rt128
noncomputable def f_B_back (v1 : Int32) (h : xH) : Option (Int32 × xH) := f_B_back_e v1 h
theorem f_B_back_ok {g : xG} {l : Launch} {d : Nat} {v1 : Int32} {h : xH} {r : Int32} {h1 : xH} (hD : 3 ≤ d) (hf : f_B_back v1 h = some (r, h1)) : xC g l d 128 [xr 11 (some 0), xi v1] h (some (xi r)) h1 :=
  xC_of2 (by decide) mx128 (Nat.le_of_ble_eq_true rfl) (f_B_back_e_ok hD hf (fun _ _ e => by cases e; exact ⟨rfl, rfl⟩))
