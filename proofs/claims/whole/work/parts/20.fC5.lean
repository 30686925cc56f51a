theorem d106_0 : decode (xcode 106) 0 = .ok (.aload_n 0, 1) := by decide +kernel
theorem d106_1 : decode (xcode 106) 1 = .ok (.getfield 70, 3) := by decide +kernel
theorem d106_4 : decode (xcode 106) 4 = .ok (.getfield 212, 3) := by decide +kernel
theorem d106_7 : decode (xcode 106) 7 = .ok (.ifCond .ne 5, 3) := by decide +kernel
theorem d106_10 : decode (xcode 106) 10 = .ok (.iconst (-1), 1) := by decide +kernel
theorem d106_11 : decode (xcode 106) 11 = .ok (.ireturn, 1) := by decide +kernel
theorem d106_12 : decode (xcode 106) 12 = .ok (.aload_n 0, 1) := by decide +kernel
theorem d106_13 : decode (xcode 106) 13 = .ok (.getfield 70, 3) := by decide +kernel
theorem d106_16 : decode (xcode 106) 16 = .ok (.aload_n 0, 1) := by decide +kernel
theorem d106_17 : decode (xcode 106) 17 = .ok (.getfield 55, 3) := by decide +kernel
theorem d106_20 : decode (xcode 106) 20 = .ok (.getfield 121, 3) := by decide +kernel
theorem d106_23 : decode (xcode 106) 23 = .ok (.invokevirtual 215, 3) := by decide +kernel
theorem d106_26 : decode (xcode 106) 26 = .ok (.aload_n 0, 1) := by decide +kernel
theorem d106_27 : decode (xcode 106) 27 = .ok (.getfield 70, 3) := by decide +kernel
theorem d106_30 : decode (xcode 106) 30 = .ok (.getfield 212, 3) := by decide +kernel
theorem d106_33 : decode (xcode 106) 33 = .ok (.ireturn, 1) := by decide +kernel
noncomputable def f_B_undo_e (h : xH) : Option (Int32 × xH) :=
  if (h.1 1 2 0) = (0 : Int32) then (
  some (((-1 : Int32), h))) else (
  (f_Past_bringBack 0 h).bind fun h4 =>
  some ((h4.1 1 2 0, h4)))
set_option maxHeartbeats 4000000 in
set_option maxRecDepth 100000 in
theorem f_B_undo_e_ok {g : xG} {l : Launch} {d : Nat} {h : xH} {o : (Int32 × xH)} {R : Option xV} {H' : xH} (hD : 3 ≤ d) (hf : f_B_undo_e h = some o) (K0 : ∀ (a : Int32) (h1 : xH), o = (a, h1) → R = some (xi a) ∧ H' = h1) : xEv g l d 106 0 [(0, xr 11 (some 0))] [] h R H' := by
  unfold f_B_undo_e at hf
  refine xs_aload_n d106_0 rfl ?_
  refine xe_getc (j := 0) d106_1 ky106 fl156 fk11_9 rfl ?_
  refine xe_geti d106_4 ky106 fl110 fk1_2 ?_
  rcases lk_if hf with ⟨hc1, hf⟩ | ⟨hc1, hf⟩
  · refine xs_if_ne (tgt := 12) d106_7 (by decide) (fun _ => ?_) (fun hn => absurd hc1 hn)
    refine xs_iconst (v := -1) d106_10 (by decide) ?_
    obtain ⟨eR, eH⟩ := K0 _ _ (Option.some.inj hf).symm
    subst eR; subst eH
    exact xs_iret d106_11 rt106
  · refine xs_if_ne (tgt := 12) d106_7 (by decide) (fun hp => absurd hp hc1) (fun _ => ?_)
    refine xs_aload_n d106_12 rfl ?_
    refine xe_getc (j := 0) d106_13 ky106 fl156 fk11_9 rfl ?_
    refine xs_aload_n d106_16 rfl ?_
    refine xe_getc (j := 0) d106_17 ky106 fl153 fk11_6 rfl ?_
    refine xe_getc (j := 0) d106_20 ky106 fl98 fk4_1 rfl ?_
    obtain ⟨h4, hc3, hf⟩ := lk_b hf
    refine xe_callv0 (as := [xr 6 (some 0)]) (st := []) (h2 := h4) (d2 := d - 1) d106_23 ky106 ml101 st7 (by decide) cn7 rfl na7 (Nat.le_of_ble_eq_true rfl) (by omega) (f_Past_bringBack_ok (by omega) hc3) ?_
    refine xs_aload_n d106_26 rfl ?_
    refine xe_getc (j := 0) d106_27 ky106 fl156 fk11_9 rfl ?_
    refine xe_geti d106_30 ky106 fl110 fk1_2 ?_
    obtain ⟨eR, eH⟩ := K0 _ _ (Option.some.inj hf).symm
    subst eR; subst eH
    exact xs_iret d106_33 rt106
noncomputable def f_B_undo (h : xH) : Option (Int32 × xH) := f_B_undo_e h
theorem f_B_undo_ok {g : xG} {l : Launch} {d : Nat} {h : xH} {r : Int32} {h1 : xH} (hD : 3 ≤ d) (hf : f_B_undo h = some (r, h1)) : xC g l d 106 [xr 11 (some 0)] h (some (xi r)) h1 :=
  xC_of (by decide) (Nat.le_of_ble_eq_true rfl) (f_B_undo_e_ok hD hf (fun _ _ e => by cases e; exact ⟨rfl, rfl⟩))
theorem d107_0 : decode (xcode 107) 0 = .ok (.aload_n 0, 1) := by decide +kernel
theorem d107_1 : decode (xcode 107) 1 = .ok (.getfield 55, 3) := by decide +kernel
theorem d107_4 : decode (xcode 107) 4 = .ok (.getfield 114, 3) := by decide +kernel
theorem d107_7 : decode (xcode 107) 7 = .ok (.getfield 173, 3) := by decide +kernel
theorem d107_10 : decode (xcode 107) 10 = .ok (.ifCond .eq 13, 3) := by decide +kernel
theorem d107_13 : decode (xcode 107) 13 = .ok (.iload_n 1, 1) := by decide +kernel
theorem d107_14 : decode (xcode 107) 14 = .ok (.ifCond .lt 9, 3) := by decide +kernel
theorem d107_17 : decode (xcode 107) 17 = .ok (.iload_n 1, 1) := by decide +kernel
theorem d107_18 : decode (xcode 107) 18 = .ok (.bipush 100, 2) := by decide +kernel
theorem d107_20 : decode (xcode 107) 20 = .ok (.if_icmp .le 5, 3) := by decide +kernel
theorem d107_23 : decode (xcode 107) 23 = .ok (.iconst (-1), 1) := by decide +kernel
theorem d107_24 : decode (xcode 107) 24 = .ok (.ireturn, 1) := by decide +kernel
theorem d107_25 : decode (xcode 107) 25 = .ok (.iload_n 2, 1) := by decide +kernel
theorem d107_26 : decode (xcode 107) 26 = .ok (.ifCond .lt 8, 3) := by decide +kernel
theorem d107_29 : decode (xcode 107) 29 = .ok (.iload_n 2, 1) := by decide +kernel
theorem d107_30 : decode (xcode 107) 30 = .ok (.iconst 3, 1) := by decide +kernel
theorem d107_31 : decode (xcode 107) 31 = .ok (.if_icmp .le 5, 3) := by decide +kernel
theorem d107_34 : decode (xcode 107) 34 = .ok (.iconst (-1), 1) := by decide +kernel
theorem d107_35 : decode (xcode 107) 35 = .ok (.ireturn, 1) := by decide +kernel
theorem d107_36 : decode (xcode 107) 36 = .ok (.aload_n 0, 1) := by decide +kernel
theorem d107_37 : decode (xcode 107) 37 = .ok (.invokevirtual 184, 3) := by decide +kernel
theorem d107_40 : decode (xcode 107) 40 = .ok (.iconst 0, 1) := by decide +kernel
theorem d107_41 : decode (xcode 107) 41 = .ok (.istore_n 3, 1) := by decide +kernel
theorem d107_42 : decode (xcode 107) 42 = .ok (.iload_n 3, 1) := by decide +kernel
theorem d107_43 : decode (xcode 107) 43 = .ok (.iload_n 1, 1) := by decide +kernel
theorem d107_44 : decode (xcode 107) 44 = .ok (.if_icmp .ge 17, 3) := by decide +kernel
theorem d107_47 : decode (xcode 107) 47 = .ok (.aload_n 0, 1) := by decide +kernel
theorem d107_48 : decode (xcode 107) 48 = .ok (.getfield 77, 3) := by decide +kernel
theorem d107_51 : decode (xcode 107) 51 = .ok (.invokevirtual 187, 3) := by decide +kernel
theorem d107_54 : decode (xcode 107) 54 = .ok (.pop, 1) := by decide +kernel
theorem d107_55 : decode (xcode 107) 55 = .ok (.iinc 3 1, 3) := by decide +kernel
theorem d107_58 : decode (xcode 107) 58 = .ok (.goto (-16), 3) := by decide +kernel
theorem d107_61 : decode (xcode 107) 61 = .ok (.iload_n 2, 1) := by decide +kernel
theorem d107_62 : decode (xcode 107) 62 = .ok (.tableswitch 79 0 2 #[26, 37, 58], 26) := by decide +kernel
theorem d107_88 : decode (xcode 107) 88 = .ok (.aload_n 0, 1) := by decide +kernel
theorem d107_89 : decode (xcode 107) 89 = .ok (.getfield 77, 3) := by decide +kernel
theorem d107_92 : decode (xcode 107) 92 = .ok (.getfield 190, 3) := by decide +kernel
theorem d107_95 : decode (xcode 107) 95 = .ok (.getfield 203, 3) := by decide +kernel
theorem d107_98 : decode (xcode 107) 98 = .ok (.ireturn, 1) := by decide +kernel
theorem d107_99 : decode (xcode 107) 99 = .ok (.aload_n 0, 1) := by decide +kernel
theorem d107_100 : decode (xcode 107) 100 = .ok (.getfield 55, 3) := by decide +kernel
theorem d107_103 : decode (xcode 107) 103 = .ok (.getfield 114, 3) := by decide +kernel
theorem d107_106 : decode (xcode 107) 106 = .ok (.aload_n 0, 1) := by decide +kernel
theorem d107_107 : decode (xcode 107) 107 = .ok (.getfield 77, 3) := by decide +kernel
theorem d107_110 : decode (xcode 107) 110 = .ok (.getfield 190, 3) := by decide +kernel
theorem d107_113 : decode (xcode 107) 113 = .ok (.getfield 218, 3) := by decide +kernel
theorem d107_116 : decode (xcode 107) 116 = .ok (.invokevirtual 221, 3) := by decide +kernel
theorem d107_119 : decode (xcode 107) 119 = .ok (.ireturn, 1) := by decide +kernel
theorem d107_120 : decode (xcode 107) 120 = .ok (.aload_n 0, 1) := by decide +kernel
theorem d107_121 : decode (xcode 107) 121 = .ok (.getfield 77, 3) := by decide +kernel
theorem d107_124 : decode (xcode 107) 124 = .ok (.getfield 190, 3) := by decide +kernel
theorem d107_127 : decode (xcode 107) 127 = .ok (.aload_n 0, 1) := by decide +kernel
theorem d107_128 : decode (xcode 107) 128 = .ok (.getfield 55, 3) := by decide +kernel
theorem d107_131 : decode (xcode 107) 131 = .ok (.getfield 114, 3) := by decide +kernel
theorem d107_134 : decode (xcode 107) 134 = .ok (.getfield 224, 3) := by decide +kernel
theorem d107_137 : decode (xcode 107) 137 = .ok (.invokevirtual 227, 3) := by decide +kernel
theorem d107_140 : decode (xcode 107) 140 = .ok (.ireturn, 1) := by decide +kernel
theorem d107_141 : decode (xcode 107) 141 = .ok (.aload_n 0, 1) := by decide +kernel
theorem d107_142 : decode (xcode 107) 142 = .ok (.getfield 77, 3) := by decide +kernel
theorem d107_145 : decode (xcode 107) 145 = .ok (.getfield 190, 3) := by decide +kernel
theorem d107_148 : decode (xcode 107) 148 = .ok (.getfield 230, 3) := by decide +kernel
theorem d107_151 : decode (xcode 107) 151 = .ok (.invokestatic 233, 3) := by decide +kernel
theorem d107_154 : decode (xcode 107) 154 = .ok (.ireturn, 1) := by decide +kernel
noncomputable def f_B_ahead_b61 (v2 : Int32) (h : xH) : Option (Int32 × xH) :=
  if v2 = (0 : Int32) then (
  some ((h.1 6 0 25, h))) else (
  if v2 = (1 : Int32) then (
  (f_Told_deepOf 0 (h.1 6 3 25) h).bind fun r12 =>
  some ((r12, h))) else (
  if v2 = (2 : Int32) then (
  (f_State_load 25 (h.1 8 2 0) h).bind fun r15 =>
  some ((r15, h))) else (
  (f_Integer_bitCount (h.1 6 2 25) h).bind fun r17 =>
  some ((r17, h)))))
set_option maxHeartbeats 4000000 in
set_option maxRecDepth 100000 in
theorem f_B_ahead_b61_ok {g : xG} {l : Launch} {d : Nat} {v2 : Int32} {h : xH} {o : (Int32 × xH)} {R : Option xV} {H' : xH} (hD : 5 ≤ d) (hf : f_B_ahead_b61 v2 h = some o) (K0 : ∀ (a : Int32) (h1 : xH), o = (a, h1) → R = some (xi a) ∧ H' = h1) : xEv g l d 107 61 [(0, xr 11 (some 0)), (2, xi v2)] [] h R H' := by
  unfold f_B_ahead_b61 at hf
  refine xs_iload_n d107_61 rfl ?_
  rcases lk_if hf with ⟨hc10, hf⟩ | ⟨hc10, hf⟩
  · refine xs_tableIn (tgt := 88) d107_62 (by rw [hc10]; decide) (by rw [hc10]; decide) (by rw [hc10]; first | done | rfl) (by decide) ?_
    refine xs_aload_n d107_88 rfl ?_
    refine xe_getc (j := 0) d107_89 ky107 fl157 fk11_10 rfl ?_
    refine xe_getc (j := 25) d107_92 ky107 fl112 fk10_0 rfl ?_
    refine xe_geti d107_95 ky107 fl70 fk6_0 ?_
    obtain ⟨eR, eH⟩ := K0 _ _ (Option.some.inj hf).symm
    subst eR; subst eH
    exact xs_iret d107_98 rt107
  · skip
    rcases lk_if hf with ⟨hc11, hf⟩ | ⟨hc11, hf⟩
    · refine xs_tableIn (tgt := 99) d107_62 (by rw [hc11]; decide) (by rw [hc11]; decide) (by rw [hc11]; first | done | rfl) (by decide) ?_
      refine xs_aload_n d107_99 rfl ?_
      refine xe_getc (j := 0) d107_100 ky107 fl153 fk11_6 rfl ?_
      refine xe_getc (j := 0) d107_103 ky107 fl96 fk4_0 rfl ?_
      refine xs_aload_n d107_106 rfl ?_
      refine xe_getc (j := 0) d107_107 ky107 fl157 fk11_10 rfl ?_
      refine xe_getc (j := 25) d107_110 ky107 fl112 fk10_0 rfl ?_
      refine xe_geti d107_113 ky107 fl81 fk6_3 ?_
      obtain ⟨r12, hc13, hf⟩ := lk_b hf
      refine xe_callv1 (as := [xi (h.1 6 3 25)]) (st := []) (h2 := h) (d2 := d - 1) d107_116 ky107 ml103 st77 (by decide) cn77 rfl na77 (Nat.le_of_ble_eq_true rfl) (by omega) (f_Told_deepOf_ok (by omega) hc13) ?_
      obtain ⟨eR, eH⟩ := K0 _ _ (Option.some.inj hf).symm
      subst eR; subst eH
      exact xs_iret d107_119 rt107
    · skip
      rcases lk_if hf with ⟨hc14, hf⟩ | ⟨hc14, hf⟩
      · refine xs_tableIn (tgt := 120) d107_62 (by rw [hc14]; decide) (by rw [hc14]; decide) (by rw [hc14]; first | done | rfl) (by decide) ?_
        refine xs_aload_n d107_120 rfl ?_
        refine xe_getc (j := 0) d107_121 ky107 fl157 fk11_10 rfl ?_
        refine xe_getc (j := 25) d107_124 ky107 fl112 fk10_0 rfl ?_
        refine xs_aload_n d107_127 rfl ?_
        refine xe_getc (j := 0) d107_128 ky107 fl153 fk11_6 rfl ?_
        refine xe_getc (j := 0) d107_131 ky107 fl96 fk4_0 rfl ?_
        refine xe_geti d107_134 ky107 fl28 fk8_2 ?_
        obtain ⟨r15, hc16, hf⟩ := lk_b hf
        refine xe_callv1 (as := [xi (h.1 8 2 0)]) (st := []) (h2 := h) (d2 := d - 1) d107_137 ky107 ml104 st52 (by decide) cn52 rfl na52 (Nat.le_of_ble_eq_true rfl) (by omega) (f_State_load_ok (by omega) hc16) ?_
        obtain ⟨eR, eH⟩ := K0 _ _ (Option.some.inj hf).symm
        subst eR; subst eH
        exact xs_iret d107_140 rt107
      · skip
        refine xs_tableOut (tgt := 141) d107_62 (xsw_out (fun k q1 q2 => ?_)) (by decide) ?_
        · rcases (show k = 0 ∨ k = 1 ∨ k = 2 by omega) with rfl | rfl | rfl
          · exact fun e => hc10 (e.trans (by decide))
          · exact fun e => hc11 (e.trans (by decide))
          · exact fun e => hc14 (e.trans (by decide))
        · skip
          refine xs_aload_n d107_141 rfl ?_
          refine xe_getc (j := 0) d107_142 ky107 fl157 fk11_10 rfl ?_
          refine xe_getc (j := 25) d107_145 ky107 fl112 fk10_0 rfl ?_
          refine xe_geti d107_148 ky107 fl78 fk6_2 ?_
          obtain ⟨r17, hc18, hf⟩ := lk_b hf
          refine xe_calls1 (as := [xi (h.1 6 2 25)]) (st := []) (h2 := h) (d2 := d - 1) d107_151 ky107 ml105 st255 rfl na255 (Nat.le_of_ble_eq_true rfl) (by omega) (f_Integer_bitCount_ok (by omega) hc18) ?_
          obtain ⟨eR, eH⟩ := K0 _ _ (Option.some.inj hf).symm
          subst eR; subst eH
          exact xs_iret d107_154 rt107
noncomputable def f_B_ahead_s42 (v1 : Int32) (v2 : Int32) (v3 : Int32) (h : xH) : Option ((Int32 × xH) ⊕ (Int32 × xH)) :=
  if v1 ≤ v3 then (
  xup (f_B_ahead_b61 v2 h)) else (
  (f_Walk_goOn h).bind fun q21 =>
  xlet (v3 + (1 : Int32)) fun v3_22 =>
  some (Sum.inl (v3_22, q21.2)))
set_option maxHeartbeats 4000000 in
set_option maxRecDepth 100000 in
theorem f_B_ahead_s42_ok {g : xG} {l : Launch} {d : Nat} {v1 : Int32} {v2 : Int32} {v3 : Int32} {h : xH} {o : ((Int32 × xH) ⊕ (Int32 × xH))} {R : Option xV} {H' : xH} (hD : 5 ≤ d) (hf : f_B_ahead_s42 v1 v2 v3 h = some o) (K1 : ∀ (w3 : Int32) (h1 : xH), o = Sum.inl (w3, h1) → xEv g l d 107 42 [(0, xr 11 (some 0)), (1, xi v1), (2, xi v2), (3, xi w3)] [] h1 R H') (K0 : ∀ (a : Int32) (h1 : xH), o = Sum.inr ((a, h1)) → R = some (xi a) ∧ H' = h1) : xEv g l d 107 42 [(0, xr 11 (some 0)), (1, xi v1), (2, xi v2), (3, xi v3)] [] h R H' := by
  unfold f_B_ahead_s42 at hf
  refine xs_iload_n d107_42 rfl ?_
  refine xs_iload_n d107_43 rfl ?_
  rcases lk_if hf with ⟨hc9, hf⟩ | ⟨hc9, hf⟩
  · refine xs_icmp_ge (tgt := 61) d107_44 (by decide) (fun _ => ?_) (fun hn => absurd hc9 hn)
    refine xs_pick [0, 2] rfl ?_
    obtain ⟨x0, hf, ex0⟩ := lk_up hf
    exact f_B_ahead_b61_ok hD hf (fun u0 u1 e => K0 u0 u1 (ex0.trans (congrArg Sum.inr e)))
  · refine xs_icmp_ge (tgt := 61) d107_44 (by decide) (fun hp => absurd hp hc9) (fun _ => ?_)
    refine xs_aload_n d107_47 rfl ?_
    refine xe_getc (j := 0) d107_48 ky107 fl157 fk11_10 rfl ?_
    obtain ⟨q21, hc20, hf⟩ := lk_b hf
    refine xe_callv1 (as := []) (st := []) (h2 := q21.2) (d2 := d - 1) d107_51 ky107 ml71 st87 (by decide) cn87 rfl na87 (Nat.le_of_ble_eq_true rfl) (by omega) (f_Walk_goOn_ok (by omega) hc20) ?_
    refine xs_pop d107_54 rfl ?_
    obtain ⟨v3_22, ev3_22, hf⟩ := lk_let hf
    refine xe_iinc (v := v3_22) (b := 1) (ls2 := [(0, xr 11 (some 0)), (1, xi v1), (2, xi v2), (3, xi v3_22)]) d107_55 mx107 (by decide) rfl (by decide) ev3_22 rfl ?_
    refine xs_goto (tgt := 42) d107_58 (by decide) ?_
    exact K1 _ _ (Option.some.inj hf).symm
noncomputable def f_B_ahead_l42 (v1 : Int32) (v2 : Int32) (v3 : Int32) (h : xH) : Option (Int32 × xH) :=
  whl (fun s => f_B_ahead_s42 v1 v2 s.1 s.2) (v3, h)
theorem f_B_ahead_l42_ok {g : xG} {l : Launch} {d : Nat} {v1 : Int32} {v2 : Int32} {v3 : Int32} {h : xH} {o : (Int32 × xH)} {R : Option xV} {H' : xH} (hD : 5 ≤ d) (hf : f_B_ahead_l42 v1 v2 v3 h = some o) (K0 : ∀ (a : Int32) (h1 : xH), o = (a, h1) → R = some (xi a) ∧ H' = h1) : xEv g l d 107 42 [(0, xr 11 (some 0)), (1, xi v1), (2, xi v2), (3, xi v3)] [] h R H' := by
  obtain ⟨n, hn⟩ := whl_iff.mp hf
  clear hf
  induction n generalizing v3 h with
  | zero => cases hn
  | succ n ih =>
    obtain ⟨o2, hs, hn⟩ := lk_b (show (f_B_ahead_s42 v1 v2 v3 h).bind (fun o => Sum.elim (itn _ n) some o) = some o from hn)
    exact f_B_ahead_s42_ok hD hs (fun u0 u1 e => ih (by rw [e] at hn; exact hn)) (fun u0 u1 e => K0 u0 u1 (by rw [e] at hn; exact (Option.some.inj hn).symm))
noncomputable def f_B_ahead_e (v1 : Int32) (v2 : Int32) (h : xH) : Option (Int32 × xH) :=
  if (h.1 8 0 0) = (0 : Int32) then (
  some (((-1 : Int32), h))) else (
  if v1 < (0 : Int32) then (
  some (((-1 : Int32), h))) else (
  if v1 ≤ (100 : Int32) then (
  if v2 < (0 : Int32) then (
  some (((-1 : Int32), h))) else (
  if v2 ≤ (3 : Int32) then (
  (f_B_startNow h).bind fun h8 =>
  f_B_ahead_l42 v1 v2 (0 : Int32) h8) else (
  some (((-1 : Int32), h))))) else (
  some (((-1 : Int32), h)))))
set_option maxHeartbeats 4000000 in
set_option maxRecDepth 100000 in
theorem f_B_ahead_e_ok {g : xG} {l : Launch} {d : Nat} {v1 : Int32} {v2 : Int32} {h : xH} {o : (Int32 × xH)} {R : Option xV} {H' : xH} (hD : 5 ≤ d) (hf : f_B_ahead_e v1 v2 h = some o) (K0 : ∀ (a : Int32) (h1 : xH), o = (a, h1) → R = some (xi a) ∧ H' = h1) : xEv g l d 107 0 [(0, xr 11 (some 0)), (1, xi v1), (2, xi v2)] [] h R H' := by
  unfold f_B_ahead_e at hf
  refine xs_aload_n d107_0 rfl ?_
  refine xe_getc (j := 0) d107_1 ky107 fl153 fk11_6 rfl ?_
  refine xe_getc (j := 0) d107_4 ky107 fl96 fk4_0 rfl ?_
  refine xe_geti d107_7 ky107 fl19 fk8_0 ?_
  rcases lk_if hf with ⟨hc1, hf⟩ | ⟨hc1, hf⟩
  · refine xs_if_eq (tgt := 23) d107_10 (by decide) (fun _ => ?_) (fun hn => absurd hc1 hn)
    refine xs_iconst (v := -1) d107_23 (by decide) ?_
    obtain ⟨eR, eH⟩ := K0 _ _ (Option.some.inj hf).symm
    subst eR; subst eH
    exact xs_iret d107_24 rt107
  · refine xs_if_eq (tgt := 23) d107_10 (by decide) (fun hp => absurd hp hc1) (fun _ => ?_)
    refine xs_iload_n d107_13 rfl ?_
    rcases lk_if hf with ⟨hc2, hf⟩ | ⟨hc2, hf⟩
    · refine xs_if_lt (tgt := 23) d107_14 (by decide) (fun _ => ?_) (fun hn => absurd hc2 hn)
      refine xs_iconst (v := -1) d107_23 (by decide) ?_
      obtain ⟨eR, eH⟩ := K0 _ _ (Option.some.inj hf).symm
      subst eR; subst eH
      exact xs_iret d107_24 rt107
    · refine xs_if_lt (tgt := 23) d107_14 (by decide) (fun hp => absurd hp hc2) (fun _ => ?_)
      refine xs_iload_n d107_17 rfl ?_
      refine xs_bipush (v := 100) d107_18 (by decide) ?_
      rcases lk_if hf with ⟨hc3, hf⟩ | ⟨hc3, hf⟩
      · refine xs_icmp_le (tgt := 25) d107_20 (by decide) (fun _ => ?_) (fun hn => absurd hc3 hn)
        refine xs_iload_n d107_25 rfl ?_
        rcases lk_if hf with ⟨hc4, hf⟩ | ⟨hc4, hf⟩
        · refine xs_if_lt (tgt := 34) d107_26 (by decide) (fun _ => ?_) (fun hn => absurd hc4 hn)
          refine xs_iconst (v := -1) d107_34 (by decide) ?_
          obtain ⟨eR, eH⟩ := K0 _ _ (Option.some.inj hf).symm
          subst eR; subst eH
          exact xs_iret d107_35 rt107
        · refine xs_if_lt (tgt := 34) d107_26 (by decide) (fun hp => absurd hp hc4) (fun _ => ?_)
          refine xs_iload_n d107_29 rfl ?_
          refine xs_iconst (v := 3) d107_30 (by decide) ?_
          rcases lk_if hf with ⟨hc5, hf⟩ | ⟨hc5, hf⟩
          · refine xs_icmp_le (tgt := 36) d107_31 (by decide) (fun _ => ?_) (fun hn => absurd hc5 hn)
            refine xs_aload_n d107_36 rfl ?_
            obtain ⟨h8, hc7, hf⟩ := lk_b hf
            refine xe_callv0 (as := []) (st := []) (h2 := h8) (d2 := d - 1) d107_37 ky107 ml67 st131 (by decide) cn131 rfl na131 (Nat.le_of_ble_eq_true rfl) (by omega) (f_B_startNow_ok (by omega) hc7) ?_
            refine xs_iconst (v := 0) d107_40 (by decide) ?_
            refine xe_istore_n (v := (0 : Int32)) (ls2 := [(0, xr 11 (some 0)), (1, xi v1), (2, xi v2), (3, xi (0 : Int32))]) d107_41 mx107 (by decide) rfl rfl ?_
            exact f_B_ahead_l42_ok hD hf K0
          · refine xs_icmp_le (tgt := 36) d107_31 (by decide) (fun hp => absurd hp hc5) (fun _ => ?_)
            refine xs_iconst (v := -1) d107_34 (by decide) ?_
            obtain ⟨eR, eH⟩ := K0 _ _ (Option.some.inj hf).symm
            subst eR; subst eH
            exact xs_iret d107_35 rt107
      · refine xs_icmp_le (tgt := 25) d107_20 (by decide) (fun hp => absurd hp hc3) (fun _ => ?_)
        refine xs_iconst (v := -1) d107_23 (by decide) ?_
        obtain ⟨eR, eH⟩ := K0 _ _ (Option.some.inj hf).symm
        subst eR; subst eH
        exact xs_iret d107_24 rt107
noncomputable def f_B_ahead (v1 : Int32) (v2 : Int32) (h : xH) : Option (Int32 × xH) := f_B_ahead_e v1 v2 h
theorem f_B_ahead_ok {g : xG} {l : Launch} {d : Nat} {v1 : Int32} {v2 : Int32} {h : xH} {r : Int32} {h1 : xH} (hD : 5 ≤ d) (hf : f_B_ahead v1 v2 h = some (r, h1)) : xC g l d 107 [xr 11 (some 0), xi v1, xi v2] h (some (xi r)) h1 :=
  xC_of (by decide) (Nat.le_of_ble_eq_true rfl) (f_B_ahead_e_ok hD hf (fun _ _ e => by cases e; exact ⟨rfl, rfl⟩))
theorem d108_0 : decode (xcode 108) 0 = .ok (.iload_n 2, 1) := by decide +kernel
theorem d108_1 : decode (xcode 108) 1 = .ok (.ifCond .lt 22, 3) := by decide +kernel
theorem d108_4 : decode (xcode 108) 4 = .ok (.iload_n 2, 1) := by decide +kernel
theorem d108_5 : decode (xcode 108) 5 = .ok (.iconst 1, 1) := by decide +kernel
theorem d108_6 : decode (xcode 108) 6 = .ok (.if_icmp .gt 17, 3) := by decide +kernel
theorem d108_9 : decode (xcode 108) 9 = .ok (.aload_n 0, 1) := by decide +kernel
theorem d108_10 : decode (xcode 108) 10 = .ok (.getfield 55, 3) := by decide +kernel
theorem d108_13 : decode (xcode 108) 13 = .ok (.getfield 121, 3) := by decide +kernel
theorem d108_16 : decode (xcode 108) 16 = .ok (.iload_n 1, 1) := by decide +kernel
theorem d108_17 : decode (xcode 108) 17 = .ok (.invokevirtual 209, 3) := by decide +kernel
theorem d108_20 : decode (xcode 108) 20 = .ok (.ifCond .ne 5, 3) := by decide +kernel
theorem d108_23 : decode (xcode 108) 23 = .ok (.iconst (-1), 1) := by decide +kernel
theorem d108_24 : decode (xcode 108) 24 = .ok (.ireturn, 1) := by decide +kernel
theorem d108_25 : decode (xcode 108) 25 = .ok (.aload_n 0, 1) := by decide +kernel
theorem d108_26 : decode (xcode 108) 26 = .ok (.invokevirtual 184, 3) := by decide +kernel
theorem d108_29 : decode (xcode 108) 29 = .ok (.iconst 1, 1) := by decide +kernel
theorem d108_30 : decode (xcode 108) 30 = .ok (.istore_n 3, 1) := by decide +kernel
theorem d108_31 : decode (xcode 108) 31 = .ok (.iload_n 3, 1) := by decide +kernel
theorem d108_32 : decode (xcode 108) 32 = .ok (.bipush 100, 2) := by decide +kernel
theorem d108_34 : decode (xcode 108) 34 = .ok (.if_icmp .gt 39, 3) := by decide +kernel
theorem d108_37 : decode (xcode 108) 37 = .ok (.aload_n 0, 1) := by decide +kernel
theorem d108_38 : decode (xcode 108) 38 = .ok (.getfield 77, 3) := by decide +kernel
theorem d108_41 : decode (xcode 108) 41 = .ok (.invokevirtual 187, 3) := by decide +kernel
theorem d108_44 : decode (xcode 108) 44 = .ok (.iload_n 1, 1) := by decide +kernel
theorem d108_45 : decode (xcode 108) 45 = .ok (.if_icmp .ne 22, 3) := by decide +kernel
theorem d108_48 : decode (xcode 108) 48 = .ok (.iload_n 2, 1) := by decide +kernel
theorem d108_49 : decode (xcode 108) 49 = .ok (.ifCond .ne 7, 3) := by decide +kernel
theorem d108_52 : decode (xcode 108) 52 = .ok (.iload_n 3, 1) := by decide +kernel
theorem d108_53 : decode (xcode 108) 53 = .ok (.goto 13, 3) := by decide +kernel
theorem d108_56 : decode (xcode 108) 56 = .ok (.aload_n 0, 1) := by decide +kernel
theorem d108_57 : decode (xcode 108) 57 = .ok (.getfield 77, 3) := by decide +kernel
theorem d108_60 : decode (xcode 108) 60 = .ok (.getfield 190, 3) := by decide +kernel
theorem d108_63 : decode (xcode 108) 63 = .ok (.getfield 203, 3) := by decide +kernel
theorem d108_66 : decode (xcode 108) 66 = .ok (.ireturn, 1) := by decide +kernel
theorem d108_67 : decode (xcode 108) 67 = .ok (.iinc 3 1, 3) := by decide +kernel
theorem d108_70 : decode (xcode 108) 70 = .ok (.goto (-39), 3) := by decide +kernel
theorem d108_73 : decode (xcode 108) 73 = .ok (.bipush (-2), 2) := by decide +kernel
theorem d108_75 : decode (xcode 108) 75 = .ok (.ireturn, 1) := by decide +kernel
noncomputable def f_B_when_b48 (v2 : Int32) (v3 : Int32) (h : xH) : Option (Int32 × xH) :=
  if v2 = (0 : Int32) then (
  some ((v3, h))) else (
  some ((h.1 6 0 25, h)))
set_option maxHeartbeats 4000000 in
set_option maxRecDepth 100000 in
theorem f_B_when_b48_ok {g : xG} {l : Launch} {d : Nat} {v2 : Int32} {v3 : Int32} {h : xH} {o : (Int32 × xH)} {R : Option xV} {H' : xH} (hD : 5 ≤ d) (hf : f_B_when_b48 v2 v3 h = some o) (K0 : ∀ (a : Int32) (h1 : xH), o = (a, h1) → R = some (xi a) ∧ H' = h1) : xEv g l d 108 48 [(0, xr 11 (some 0)), (2, xi v2), (3, xi v3)] [] h R H' := by
  unfold f_B_when_b48 at hf
  refine xs_iload_n d108_48 rfl ?_
  rcases lk_if hf with ⟨hc14, hf⟩ | ⟨hc14, hf⟩
  · refine xs_if_ne (tgt := 56) d108_49 (by decide) (fun _ => ?_) (fun hn => absurd hc14 hn)
    refine xs_iload_n d108_52 rfl ?_
    refine xs_goto (tgt := 66) d108_53 (by decide) ?_
    obtain ⟨eR, eH⟩ := K0 _ _ (Option.some.inj hf).symm
    subst eR; subst eH
    exact xs_iret d108_66 rt108
  · refine xs_if_ne (tgt := 56) d108_49 (by decide) (fun hp => absurd hp hc14) (fun _ => ?_)
    refine xs_aload_n d108_56 rfl ?_
    refine xe_getc (j := 0) d108_57 ky108 fl157 fk11_10 rfl ?_
    refine xe_getc (j := 25) d108_60 ky108 fl112 fk10_0 rfl ?_
    refine xe_geti d108_63 ky108 fl70 fk6_0 ?_
    obtain ⟨eR, eH⟩ := K0 _ _ (Option.some.inj hf).symm
    subst eR; subst eH
    exact xs_iret d108_66 rt108
noncomputable def f_B_when_s31 (v1 : Int32) (v2 : Int32) (v3 : Int32) (h : xH) : Option ((Int32 × xH) ⊕ (Int32 × xH)) :=
  if (100 : Int32) < v3 then (
  some (Sum.inr (((-2 : Int32), h)))) else (
  (f_Walk_goOn h).bind fun q12 =>
  if q12.1 = v1 then (
  xup (f_B_when_b48 v2 v3 q12.2)) else (
  xlet (v3 + (1 : Int32)) fun v3_15 =>
  some (Sum.inl (v3_15, q12.2))))
set_option maxHeartbeats 4000000 in
set_option maxRecDepth 100000 in
theorem f_B_when_s31_ok {g : xG} {l : Launch} {d : Nat} {v1 : Int32} {v2 : Int32} {v3 : Int32} {h : xH} {o : ((Int32 × xH) ⊕ (Int32 × xH))} {R : Option xV} {H' : xH} (hD : 5 ≤ d) (hf : f_B_when_s31 v1 v2 v3 h = some o) (K1 : ∀ (w3 : Int32) (h1 : xH), o = Sum.inl (w3, h1) → xEv g l d 108 31 [(0, xr 11 (some 0)), (1, xi v1), (2, xi v2), (3, xi w3)] [] h1 R H') (K0 : ∀ (a : Int32) (h1 : xH), o = Sum.inr ((a, h1)) → R = some (xi a) ∧ H' = h1) : xEv g l d 108 31 [(0, xr 11 (some 0)), (1, xi v1), (2, xi v2), (3, xi v3)] [] h R H' := by
  unfold f_B_when_s31 at hf
  refine xs_iload_n d108_31 rfl ?_
  refine xs_bipush (v := 100) d108_32 (by decide) ?_
  rcases lk_if hf with ⟨hc9, hf⟩ | ⟨hc9, hf⟩
  · refine xs_icmp_gt (tgt := 73) d108_34 (by decide) (fun _ => ?_) (fun hn => absurd hc9 hn)
    refine xs_bipush (v := -2) d108_73 (by decide) ?_
    obtain ⟨eR, eH⟩ := K0 _ _ (Option.some.inj hf).symm
    subst eR; subst eH
    exact xs_iret d108_75 rt108
  · refine xs_icmp_gt (tgt := 73) d108_34 (by decide) (fun hp => absurd hp hc9) (fun _ => ?_)
    refine xs_aload_n d108_37 rfl ?_
    refine xe_getc (j := 0) d108_38 ky108 fl157 fk11_10 rfl ?_
    obtain ⟨q12, hc11, hf⟩ := lk_b hf
    refine xe_callv1 (as := []) (st := []) (h2 := q12.2) (d2 := d - 1) d108_41 ky108 ml71 st87 (by decide) cn87 rfl na87 (Nat.le_of_ble_eq_true rfl) (by omega) (f_Walk_goOn_ok (by omega) hc11) ?_
    refine xs_iload_n d108_44 rfl ?_
    rcases lk_if hf with ⟨hc13, hf⟩ | ⟨hc13, hf⟩
    · refine xs_icmp_ne (tgt := 67) d108_45 (by decide) (fun _ => ?_) (fun hn => absurd hc13 hn)
      refine xs_pick [0, 2, 3] rfl ?_
      obtain ⟨x0, hf, ex0⟩ := lk_up hf
      exact f_B_when_b48_ok hD hf (fun u0 u1 e => K0 u0 u1 (ex0.trans (congrArg Sum.inr e)))
    · refine xs_icmp_ne (tgt := 67) d108_45 (by decide) (fun hp => absurd hp hc13) (fun _ => ?_)
      obtain ⟨v3_15, ev3_15, hf⟩ := lk_let hf
      refine xe_iinc (v := v3_15) (b := 1) (ls2 := [(0, xr 11 (some 0)), (1, xi v1), (2, xi v2), (3, xi v3_15)]) d108_67 mx108 (by decide) rfl (by decide) ev3_15 rfl ?_
      refine xs_goto (tgt := 31) d108_70 (by decide) ?_
      exact K1 _ _ (Option.some.inj hf).symm
noncomputable def f_B_when_l31 (v1 : Int32) (v2 : Int32) (v3 : Int32) (h : xH) : Option (Int32 × xH) :=
  whl (fun s => f_B_when_s31 v1 v2 s.1 s.2) (v3, h)
theorem f_B_when_l31_ok {g : xG} {l : Launch} {d : Nat} {v1 : Int32} {v2 : Int32} {v3 : Int32} {h : xH} {o : (Int32 × xH)} {R : Option xV} {H' : xH} (hD : 5 ≤ d) (hf : f_B_when_l31 v1 v2 v3 h = some o) (K0 : ∀ (a : Int32) (h1 : xH), o = (a, h1) → R = some (xi a) ∧ H' = h1) : xEv g l d 108 31 [(0, xr 11 (some 0)), (1, xi v1), (2, xi v2), (3, xi v3)] [] h R H' := by
  obtain ⟨n, hn⟩ := whl_iff.mp hf
  clear hf
  induction n generalizing v3 h with
  | zero => cases hn
  | succ n ih =>
    obtain ⟨o2, hs, hn⟩ := lk_b (show (f_B_when_s31 v1 v2 v3 h).bind (fun o => Sum.elim (itn _ n) some o) = some o from hn)
    exact f_B_when_s31_ok hD hs (fun u0 u1 e => ih (by rw [e] at hn; exact hn)) (fun u0 u1 e => K0 u0 u1 (by rw [e] at hn; exact (Option.some.inj hn).symm))
noncomputable def f_B_when_e (v1 : Int32) (v2 : Int32) (h : xH) : Option (Int32 × xH) :=
  if v2 < (0 : Int32) then (
  some (((-1 : Int32), h))) else (
  if (1 : Int32) < v2 then (
  some (((-1 : Int32), h))) else (
  (f_State_isIn 0 v1 h).bind fun r3 =>
  if r3 = (0 : Int32) then (
  some (((-1 : Int32), h))) else (
  (f_B_startNow h).bind fun h8 =>
  f_B_when_l31 v1 v2 (1 : Int32) h8)))
set_option maxHeartbeats 4000000 in
set_option maxRecDepth 100000 in
theorem f_B_when_e_ok {g : xG} {l : Launch} {d : Nat} {v1 : Int32} {v2 : Int32} {h : xH} {o : (Int32 × xH)} {R : Option xV} {H' : xH} (hD : 5 ≤ d) (hf : f_B_when_e v1 v2 h = some o) (K0 : ∀ (a : Int32) (h1 : xH), o = (a, h1) → R = some (xi a) ∧ H' = h1) : xEv g l d 108 0 [(0, xr 11 (some 0)), (1, xi v1), (2, xi v2)] [] h R H' := by
  unfold f_B_when_e at hf
  refine xs_iload_n d108_0 rfl ?_
  rcases lk_if hf with ⟨hc1, hf⟩ | ⟨hc1, hf⟩
  · refine xs_if_lt (tgt := 23) d108_1 (by decide) (fun _ => ?_) (fun hn => absurd hc1 hn)
    refine xs_iconst (v := -1) d108_23 (by decide) ?_
    obtain ⟨eR, eH⟩ := K0 _ _ (Option.some.inj hf).symm
    subst eR; subst eH
    exact xs_iret d108_24 rt108
  · refine xs_if_lt (tgt := 23) d108_1 (by decide) (fun hp => absurd hp hc1) (fun _ => ?_)
    refine xs_iload_n d108_4 rfl ?_
    refine xs_iconst (v := 1) d108_5 (by decide) ?_
    rcases lk_if hf with ⟨hc2, hf⟩ | ⟨hc2, hf⟩
    · refine xs_icmp_gt (tgt := 23) d108_6 (by decide) (fun _ => ?_) (fun hn => absurd hc2 hn)
      refine xs_iconst (v := -1) d108_23 (by decide) ?_
      obtain ⟨eR, eH⟩ := K0 _ _ (Option.some.inj hf).symm
      subst eR; subst eH
      exact xs_iret d108_24 rt108
    · refine xs_icmp_gt (tgt := 23) d108_6 (by decide) (fun hp => absurd hp hc2) (fun _ => ?_)
      refine xs_aload_n d108_9 rfl ?_
      refine xe_getc (j := 0) d108_10 ky108 fl153 fk11_6 rfl ?_
      refine xe_getc (j := 0) d108_13 ky108 fl98 fk4_1 rfl ?_
      refine xs_iload_n d108_16 rfl ?_
      obtain ⟨r3, hc4, hf⟩ := lk_b hf
      refine xe_callv1 (as := [xi v1]) (st := []) (h2 := h) (d2 := d - 1) d108_17 ky108 ml98 st47 (by decide) cn47 rfl na47 (Nat.le_of_ble_eq_true rfl) (by omega) (f_State_isIn_ok (by omega) hc4) ?_
      rcases lk_if hf with ⟨hc5, hf⟩ | ⟨hc5, hf⟩
      · refine xs_if_ne (tgt := 25) d108_20 (by decide) (fun _ => ?_) (fun hn => absurd hc5 hn)
        refine xs_iconst (v := -1) d108_23 (by decide) ?_
        obtain ⟨eR, eH⟩ := K0 _ _ (Option.some.inj hf).symm
        subst eR; subst eH
        exact xs_iret d108_24 rt108
      · refine xs_if_ne (tgt := 25) d108_20 (by decide) (fun hp => absurd hp hc5) (fun _ => ?_)
        refine xs_aload_n d108_25 rfl ?_
        obtain ⟨h8, hc7, hf⟩ := lk_b hf
        refine xe_callv0 (as := []) (st := []) (h2 := h8) (d2 := d - 1) d108_26 ky108 ml67 st131 (by decide) cn131 rfl na131 (Nat.le_of_ble_eq_true rfl) (by omega) (f_B_startNow_ok (by omega) hc7) ?_
        refine xs_iconst (v := 1) d108_29 (by decide) ?_
        refine xe_istore_n (v := (1 : Int32)) (ls2 := [(0, xr 11 (some 0)), (1, xi v1), (2, xi v2), (3, xi (1 : Int32))]) d108_30 mx108 (by decide) rfl rfl ?_
        exact f_B_when_l31_ok hD hf K0
noncomputable def f_B_when (v1 : Int32) (v2 : Int32) (h : xH) : Option (Int32 × xH) := f_B_when_e v1 v2 h
theorem f_B_when_ok {g : xG} {l : Launch} {d : Nat} {v1 : Int32} {v2 : Int32} {h : xH} {r : Int32} {h1 : xH} (hD : 5 ≤ d) (hf : f_B_when v1 v2 h = some (r, h1)) : xC g l d 108 [xr 11 (some 0), xi v1, xi v2] h (some (xi r)) h1 :=
  xC_of (by decide) (Nat.le_of_ble_eq_true rfl) (f_B_when_e_ok hD hf (fun _ _ e => by cases e; exact ⟨rfl, rfl⟩))
theorem d109_0 : decode (xcode 109) 0 = .ok (.aload_n 0, 1) := by decide +kernel
theorem d109_1 : decode (xcode 109) 1 = .ok (.getfield 55, 3) := by decide +kernel
theorem d109_4 : decode (xcode 109) 4 = .ok (.getfield 114, 3) := by decide +kernel
theorem d109_7 : decode (xcode 109) 7 = .ok (.getfield 173, 3) := by decide +kernel
theorem d109_10 : decode (xcode 109) 10 = .ok (.ifCond .eq 12, 3) := by decide +kernel
theorem d109_13 : decode (xcode 109) 13 = .ok (.iload_n 1, 1) := by decide +kernel
theorem d109_14 : decode (xcode 109) 14 = .ok (.ifCond .lt 8, 3) := by decide +kernel
theorem d109_17 : decode (xcode 109) 17 = .ok (.iload_n 1, 1) := by decide +kernel
theorem d109_18 : decode (xcode 109) 18 = .ok (.iconst 2, 1) := by decide +kernel
theorem d109_19 : decode (xcode 109) 19 = .ok (.if_icmp .le 5, 3) := by decide +kernel
theorem d109_22 : decode (xcode 109) 22 = .ok (.iconst (-1), 1) := by decide +kernel
theorem d109_23 : decode (xcode 109) 23 = .ok (.ireturn, 1) := by decide +kernel
theorem d109_24 : decode (xcode 109) 24 = .ok (.aload_n 0, 1) := by decide +kernel
theorem d109_25 : decode (xcode 109) 25 = .ok (.invokevirtual 184, 3) := by decide +kernel
theorem d109_28 : decode (xcode 109) 28 = .ok (.bipush (-2), 2) := by decide +kernel
theorem d109_30 : decode (xcode 109) 30 = .ok (.istore_n 2, 1) := by decide +kernel
theorem d109_31 : decode (xcode 109) 31 = .ok (.iconst 0, 1) := by decide +kernel
theorem d109_32 : decode (xcode 109) 32 = .ok (.istore_n 3, 1) := by decide +kernel
theorem d109_33 : decode (xcode 109) 33 = .ok (.iload_n 3, 1) := by decide +kernel
theorem d109_34 : decode (xcode 109) 34 = .ok (.bipush 100, 2) := by decide +kernel
theorem d109_36 : decode (xcode 109) 36 = .ok (.if_icmp .ge 42, 3) := by decide +kernel
theorem d109_39 : decode (xcode 109) 39 = .ok (.aload_n 0, 1) := by decide +kernel
theorem d109_40 : decode (xcode 109) 40 = .ok (.getfield 77, 3) := by decide +kernel
theorem d109_43 : decode (xcode 109) 43 = .ok (.invokevirtual 187, 3) := by decide +kernel
theorem d109_46 : decode (xcode 109) 46 = .ok (.istore 4, 2) := by decide +kernel
theorem d109_48 : decode (xcode 109) 48 = .ok (.iload 4, 2) := by decide +kernel
theorem d109_50 : decode (xcode 109) 50 = .ok (.iconst (-1), 1) := by decide +kernel
theorem d109_51 : decode (xcode 109) 51 = .ok (.if_icmp .eq 21, 3) := by decide +kernel
theorem d109_54 : decode (xcode 109) 54 = .ok (.aload_n 0, 1) := by decide +kernel
theorem d109_55 : decode (xcode 109) 55 = .ok (.getfield 77, 3) := by decide +kernel
theorem d109_58 : decode (xcode 109) 58 = .ok (.getfield 190, 3) := by decide +kernel
theorem d109_61 : decode (xcode 109) 61 = .ok (.iload 4, 2) := by decide +kernel
theorem d109_63 : decode (xcode 109) 63 = .ok (.invokevirtual 238, 3) := by decide +kernel
theorem d109_66 : decode (xcode 109) 66 = .ok (.ifCond .eq 6, 3) := by decide +kernel
theorem d109_69 : decode (xcode 109) 69 = .ok (.iload 4, 2) := by decide +kernel
theorem d109_71 : decode (xcode 109) 71 = .ok (.istore_n 2, 1) := by decide +kernel
theorem d109_72 : decode (xcode 109) 72 = .ok (.iinc 3 1, 3) := by decide +kernel
theorem d109_75 : decode (xcode 109) 75 = .ok (.goto (-42), 3) := by decide +kernel
theorem d109_78 : decode (xcode 109) 78 = .ok (.aload_n 0, 1) := by decide +kernel
theorem d109_79 : decode (xcode 109) 79 = .ok (.getfield 77, 3) := by decide +kernel
theorem d109_82 : decode (xcode 109) 82 = .ok (.getfield 190, 3) := by decide +kernel
theorem d109_85 : decode (xcode 109) 85 = .ok (.getfield 218, 3) := by decide +kernel
theorem d109_88 : decode (xcode 109) 88 = .ok (.aload_n 0, 1) := by decide +kernel
theorem d109_89 : decode (xcode 109) 89 = .ok (.getfield 55, 3) := by decide +kernel
theorem d109_92 : decode (xcode 109) 92 = .ok (.getfield 121, 3) := by decide +kernel
theorem d109_95 : decode (xcode 109) 95 = .ok (.getfield 218, 3) := by decide +kernel
theorem d109_98 : decode (xcode 109) 98 = .ok (.iconst (-1), 1) := by decide +kernel
theorem d109_99 : decode (xcode 109) 99 = .ok (.ixor, 1) := by decide +kernel
theorem d109_100 : decode (xcode 109) 100 = .ok (.iand, 1) := by decide +kernel
theorem d109_101 : decode (xcode 109) 101 = .ok (.istore_n 3, 1) := by decide +kernel
theorem d109_102 : decode (xcode 109) 102 = .ok (.iload_n 1, 1) := by decide +kernel
theorem d109_103 : decode (xcode 109) 103 = .ok (.lookupswitch 42 #[(0, 25), (1, 30)], 25) := by decide +kernel
theorem d109_128 : decode (xcode 109) 128 = .ok (.iload_n 3, 1) := by decide +kernel
theorem d109_129 : decode (xcode 109) 129 = .ok (.invokestatic 233, 3) := by decide +kernel
theorem d109_132 : decode (xcode 109) 132 = .ok (.ireturn, 1) := by decide +kernel
theorem d109_133 : decode (xcode 109) 133 = .ok (.aload_n 0, 1) := by decide +kernel
theorem d109_134 : decode (xcode 109) 134 = .ok (.getfield 55, 3) := by decide +kernel
theorem d109_137 : decode (xcode 109) 137 = .ok (.getfield 114, 3) := by decide +kernel
theorem d109_140 : decode (xcode 109) 140 = .ok (.iload_n 3, 1) := by decide +kernel
theorem d109_141 : decode (xcode 109) 141 = .ok (.invokevirtual 221, 3) := by decide +kernel
theorem d109_144 : decode (xcode 109) 144 = .ok (.ireturn, 1) := by decide +kernel
theorem d109_145 : decode (xcode 109) 145 = .ok (.iload_n 2, 1) := by decide +kernel
theorem d109_146 : decode (xcode 109) 146 = .ok (.ireturn, 1) := by decide +kernel
noncomputable def f_B_dusk_b78 (v1 : Int32) (v2 : Int32) (h : xH) : Option (Int32 × xH) :=
  xlet ((h.1 6 3 25) &&& ((h.1 6 3 0) ^^^ (-1 : Int32))) fun v3_8 =>
  if v1 = (0 : Int32) then (
  (f_Integer_bitCount v3_8 h).bind fun r10 =>
  some ((r10, h))) else (
  if v1 = (1 : Int32) then (
  (f_Told_deepOf 0 v3_8 h).bind fun r13 =>
  some ((r13, h))) else (
  some ((v2, h))))
set_option maxHeartbeats 4000000 in
set_option maxRecDepth 100000 in
theorem f_B_dusk_b78_ok {g : xG} {l : Launch} {d : Nat} {v1 : Int32} {v2 : Int32} {h : xH} {o : (Int32 × xH)} {R : Option xV} {H' : xH} (hD : 5 ≤ d) (hf : f_B_dusk_b78 v1 v2 h = some o) (K0 : ∀ (a : Int32) (h1 : xH), o = (a, h1) → R = some (xi a) ∧ H' = h1) : xEv g l d 109 78 [(0, xr 11 (some 0)), (1, xi v1), (2, xi v2)] [] h R H' := by
  unfold f_B_dusk_b78 at hf
  refine xs_aload_n d109_78 rfl ?_
  refine xe_getc (j := 0) d109_79 ky109 fl157 fk11_10 rfl ?_
  refine xe_getc (j := 25) d109_82 ky109 fl112 fk10_0 rfl ?_
  refine xe_geti d109_85 ky109 fl81 fk6_3 ?_
  refine xs_aload_n d109_88 rfl ?_
  refine xe_getc (j := 0) d109_89 ky109 fl153 fk11_6 rfl ?_
  refine xe_getc (j := 0) d109_92 ky109 fl98 fk4_1 rfl ?_
  refine xe_geti d109_95 ky109 fl81 fk6_3 ?_
  refine xs_iconst (v := -1) d109_98 (by decide) ?_
  refine xs_ixor d109_99 ?_
  refine xs_iand d109_100 ?_
  obtain ⟨v3_8, ev3_8, hf⟩ := lk_let hf
  refine xe_istore_n (v := v3_8) (ls2 := [(0, xr 11 (some 0)), (1, xi v1), (2, xi v2), (3, xi v3_8)]) d109_101 mx109 (by decide) ev3_8 rfl ?_
  refine xs_iload_n d109_102 rfl ?_
  rcases lk_if hf with ⟨hc9, hf⟩ | ⟨hc9, hf⟩
  · refine xs_lookup (tgt := 128) d109_103 (by decide) (by rw [hc9]; first | done | rfl) (by decide) ?_
    refine xs_iload_n d109_128 rfl ?_
    obtain ⟨r10, hc11, hf⟩ := lk_b hf
    refine xe_calls1 (as := [xi v3_8]) (st := []) (h2 := h) (d2 := d - 1) d109_129 ky109 ml105 st255 rfl na255 (Nat.le_of_ble_eq_true rfl) (by omega) (f_Integer_bitCount_ok (by omega) hc11) ?_
    obtain ⟨eR, eH⟩ := K0 _ _ (Option.some.inj hf).symm
    subst eR; subst eH
    exact xs_iret d109_132 rt109
  · skip
    rcases lk_if hf with ⟨hc12, hf⟩ | ⟨hc12, hf⟩
    · refine xs_lookup (tgt := 133) d109_103 (by decide) (by rw [hc12]; first | done | rfl) (by decide) ?_
      refine xs_aload_n d109_133 rfl ?_
      refine xe_getc (j := 0) d109_134 ky109 fl153 fk11_6 rfl ?_
      refine xe_getc (j := 0) d109_137 ky109 fl96 fk4_0 rfl ?_
      refine xs_iload_n d109_140 rfl ?_
      obtain ⟨r13, hc14, hf⟩ := lk_b hf
      refine xe_callv1 (as := [xi v3_8]) (st := []) (h2 := h) (d2 := d - 1) d109_141 ky109 ml103 st77 (by decide) cn77 rfl na77 (Nat.le_of_ble_eq_true rfl) (by omega) (f_Told_deepOf_ok (by omega) hc14) ?_
      obtain ⟨eR, eH⟩ := K0 _ _ (Option.some.inj hf).symm
      subst eR; subst eH
      exact xs_iret d109_144 rt109
    · skip
      refine xs_lookup (tgt := 145) d109_103 (by decide) (xlk_out (l := [(0, 25), (1, 30)]) (List.forall_mem_cons.mpr ⟨xlk_ne (by decide) hc9, List.forall_mem_cons.mpr ⟨xlk_ne (by decide) hc12, fun _ h => absurd h List.not_mem_nil⟩⟩)) (by decide) ?_
      refine xs_iload_n d109_145 rfl ?_
      obtain ⟨eR, eH⟩ := K0 _ _ (Option.some.inj hf).symm
      subst eR; subst eH
      exact xs_iret d109_146 rt109
noncomputable def f_B_dusk_b72 (v1 : Int32) (v2 : Int32) (v3 : Int32) (h : xH) : Option ((Int32 × Int32 × xH) ⊕ (Int32 × xH)) :=
  xlet (v3 + (1 : Int32)) fun v3_19 =>
  some (Sum.inl (v2, v3_19, h))
set_option maxHeartbeats 4000000 in
set_option maxRecDepth 100000 in
theorem f_B_dusk_b72_ok {g : xG} {l : Launch} {d : Nat} {v1 : Int32} {v2 : Int32} {v3 : Int32} {h : xH} {o : ((Int32 × Int32 × xH) ⊕ (Int32 × xH))} {R : Option xV} {H' : xH} (hD : 5 ≤ d) (hf : f_B_dusk_b72 v1 v2 v3 h = some o) (K1 : ∀ (w2 : Int32) (w3 : Int32) (h1 : xH), o = Sum.inl (w2, w3, h1) → xEv g l d 109 33 [(0, xr 11 (some 0)), (1, xi v1), (2, xi w2), (3, xi w3)] [] h1 R H') (K0 : ∀ (a : Int32) (h1 : xH), o = Sum.inr ((a, h1)) → R = some (xi a) ∧ H' = h1) : xEv g l d 109 72 [(0, xr 11 (some 0)), (1, xi v1), (2, xi v2), (3, xi v3)] [] h R H' := by
  unfold f_B_dusk_b72 at hf
  obtain ⟨v3_19, ev3_19, hf⟩ := lk_let hf
  refine xe_iinc (v := v3_19) (b := 1) (ls2 := [(0, xr 11 (some 0)), (1, xi v1), (2, xi v2), (3, xi v3_19)]) d109_72 mx109 (by decide) rfl (by decide) ev3_19 rfl ?_
  refine xs_goto (tgt := 33) d109_75 (by decide) ?_
  exact K1 _ _ _ (Option.some.inj hf).symm
noncomputable def f_B_dusk_s33 (v1 : Int32) (v2 : Int32) (v3 : Int32) (h : xH) : Option ((Int32 × Int32 × xH) ⊕ (Int32 × xH)) :=
  if (100 : Int32) ≤ v3 then (
  xup (f_B_dusk_b78 v1 v2 h)) else (
  (f_Walk_goOn h).bind fun q17 =>
  if q17.1 = (-1 : Int32) then (
  f_B_dusk_b72 v1 v2 v3 q17.2) else (
  (f_State_isLetBe 25 q17.1 q17.2).bind fun r20 =>
  if r20 = (0 : Int32) then (
  f_B_dusk_b72 v1 v2 v3 q17.2) else (
  f_B_dusk_b72 v1 q17.1 v3 q17.2)))
set_option maxHeartbeats 4000000 in
set_option maxRecDepth 100000 in
theorem f_B_dusk_s33_ok {g : xG} {l : Launch} {d : Nat} {v1 : Int32} {v2 : Int32} {v3 : Int32} {h : xH} {o : ((Int32 × Int32 × xH) ⊕ (Int32 × xH))} {R : Option xV} {H' : xH} (hD : 5 ≤ d) (hf : f_B_dusk_s33 v1 v2 v3 h = some o) (K1 : ∀ (w2 : Int32) (w3 : Int32) (h1 : xH), o = Sum.inl (w2, w3, h1) → xEv g l d 109 33 [(0, xr 11 (some 0)), (1, xi v1), (2, xi w2), (3, xi w3)] [] h1 R H') (K0 : ∀ (a : Int32) (h1 : xH), o = Sum.inr ((a, h1)) → R = some (xi a) ∧ H' = h1) : xEv g l d 109 33 [(0, xr 11 (some 0)), (1, xi v1), (2, xi v2), (3, xi v3)] [] h R H' := by
  unfold f_B_dusk_s33 at hf
  refine xs_iload_n d109_33 rfl ?_
  refine xs_bipush (v := 100) d109_34 (by decide) ?_
  rcases lk_if hf with ⟨hc7, hf⟩ | ⟨hc7, hf⟩
  · refine xs_icmp_ge (tgt := 78) d109_36 (by decide) (fun _ => ?_) (fun hn => absurd hc7 hn)
    refine xs_pick [0, 1, 2] rfl ?_
    obtain ⟨x0, hf, ex0⟩ := lk_up hf
    exact f_B_dusk_b78_ok hD hf (fun u0 u1 e => K0 u0 u1 (ex0.trans (congrArg Sum.inr e)))
  · refine xs_icmp_ge (tgt := 78) d109_36 (by decide) (fun hp => absurd hp hc7) (fun _ => ?_)
    refine xs_aload_n d109_39 rfl ?_
    refine xe_getc (j := 0) d109_40 ky109 fl157 fk11_10 rfl ?_
    obtain ⟨q17, hc16, hf⟩ := lk_b hf
    refine xe_callv1 (as := []) (st := []) (h2 := q17.2) (d2 := d - 1) d109_43 ky109 ml71 st87 (by decide) cn87 rfl na87 (Nat.le_of_ble_eq_true rfl) (by omega) (f_Walk_goOn_ok (by omega) hc16) ?_
    refine xe_istore (v := q17.1) (ls2 := [(0, xr 11 (some 0)), (1, xi v1), (2, xi v2), (3, xi v3), (4, xi q17.1)]) d109_46 mx109 (by decide) rfl rfl ?_
    refine xs_iload d109_48 rfl ?_
    refine xs_iconst (v := -1) d109_50 (by decide) ?_
    rcases lk_if hf with ⟨hc18, hf⟩ | ⟨hc18, hf⟩
    · refine xs_icmp_eq (tgt := 72) d109_51 (by decide) (fun _ => ?_) (fun hn => absurd hc18 hn)
      refine xs_pick [0, 1, 2, 3] rfl ?_
      exact f_B_dusk_b72_ok hD hf K1 K0
    · refine xs_icmp_eq (tgt := 72) d109_51 (by decide) (fun hp => absurd hp hc18) (fun _ => ?_)
      refine xs_aload_n d109_54 rfl ?_
      refine xe_getc (j := 0) d109_55 ky109 fl157 fk11_10 rfl ?_
      refine xe_getc (j := 25) d109_58 ky109 fl112 fk10_0 rfl ?_
      refine xs_iload d109_61 rfl ?_
      obtain ⟨r20, hc21, hf⟩ := lk_b hf
      refine xe_callv1 (as := [xi q17.1]) (st := []) (h2 := q17.2) (d2 := d - 1) d109_63 ky109 ml108 st48 (by decide) cn48 rfl na48 (Nat.le_of_ble_eq_true rfl) (by omega) (f_State_isLetBe_ok (by omega) hc21) ?_
      rcases lk_if hf with ⟨hc22, hf⟩ | ⟨hc22, hf⟩
      · refine xs_if_eq (tgt := 72) d109_66 (by decide) (fun _ => ?_) (fun hn => absurd hc22 hn)
        refine xs_pick [0, 1, 2, 3] rfl ?_
        exact f_B_dusk_b72_ok hD hf K1 K0
      · refine xs_if_eq (tgt := 72) d109_66 (by decide) (fun hp => absurd hp hc22) (fun _ => ?_)
        refine xs_iload d109_69 rfl ?_
        refine xe_istore_n (v := q17.1) (ls2 := [(0, xr 11 (some 0)), (1, xi v1), (2, xi q17.1), (3, xi v3), (4, xi q17.1)]) d109_71 mx109 (by decide) rfl rfl ?_
        refine xs_pick [0, 1, 2, 3] rfl ?_
        exact f_B_dusk_b72_ok hD hf K1 K0
noncomputable def f_B_dusk_l33 (v1 : Int32) (v2 : Int32) (v3 : Int32) (h : xH) : Option (Int32 × xH) :=
  whl (fun s => f_B_dusk_s33 v1 s.1 s.2.1 s.2.2) (v2, v3, h)
theorem f_B_dusk_l33_ok {g : xG} {l : Launch} {d : Nat} {v1 : Int32} {v2 : Int32} {v3 : Int32} {h : xH} {o : (Int32 × xH)} {R : Option xV} {H' : xH} (hD : 5 ≤ d) (hf : f_B_dusk_l33 v1 v2 v3 h = some o) (K0 : ∀ (a : Int32) (h1 : xH), o = (a, h1) → R = some (xi a) ∧ H' = h1) : xEv g l d 109 33 [(0, xr 11 (some 0)), (1, xi v1), (2, xi v2), (3, xi v3)] [] h R H' := by
  obtain ⟨n, hn⟩ := whl_iff.mp hf
  clear hf
  induction n generalizing v2 v3 h with
  | zero => cases hn
  | succ n ih =>
    obtain ⟨o2, hs, hn⟩ := lk_b (show (f_B_dusk_s33 v1 v2 v3 h).bind (fun o => Sum.elim (itn _ n) some o) = some o from hn)
    exact f_B_dusk_s33_ok hD hs (fun u0 u1 u2 e => ih (by rw [e] at hn; exact hn)) (fun u0 u1 e => K0 u0 u1 (by rw [e] at hn; exact (Option.some.inj hn).symm))
noncomputable def f_B_dusk_e (v1 : Int32) (h : xH) : Option (Int32 × xH) :=
  if (h.1 8 0 0) = (0 : Int32) then (
  some (((-1 : Int32), h))) else (
  if v1 < (0 : Int32) then (
  some (((-1 : Int32), h))) else (
  if v1 ≤ (2 : Int32) then (
  (f_B_startNow h).bind fun h6 =>
  f_B_dusk_l33 v1 (-2 : Int32) (0 : Int32) h6) else (
  some (((-1 : Int32), h)))))
set_option maxHeartbeats 4000000 in
set_option maxRecDepth 100000 in
theorem f_B_dusk_e_ok {g : xG} {l : Launch} {d : Nat} {v1 : Int32} {h : xH} {o : (Int32 × xH)} {R : Option xV} {H' : xH} (hD : 5 ≤ d) (hf : f_B_dusk_e v1 h = some o) (K0 : ∀ (a : Int32) (h1 : xH), o = (a, h1) → R = some (xi a) ∧ H' = h1) : xEv g l d 109 0 [(0, xr 11 (some 0)), (1, xi v1)] [] h R H' := by
  unfold f_B_dusk_e at hf
  refine xs_aload_n d109_0 rfl ?_
  refine xe_getc (j := 0) d109_1 ky109 fl153 fk11_6 rfl ?_
  refine xe_getc (j := 0) d109_4 ky109 fl96 fk4_0 rfl ?_
  refine xe_geti d109_7 ky109 fl19 fk8_0 ?_
  rcases lk_if hf with ⟨hc1, hf⟩ | ⟨hc1, hf⟩
  · refine xs_if_eq (tgt := 22) d109_10 (by decide) (fun _ => ?_) (fun hn => absurd hc1 hn)
    refine xs_iconst (v := -1) d109_22 (by decide) ?_
    obtain ⟨eR, eH⟩ := K0 _ _ (Option.some.inj hf).symm
    subst eR; subst eH
    exact xs_iret d109_23 rt109
  · refine xs_if_eq (tgt := 22) d109_10 (by decide) (fun hp => absurd hp hc1) (fun _ => ?_)
    refine xs_iload_n d109_13 rfl ?_
    rcases lk_if hf with ⟨hc2, hf⟩ | ⟨hc2, hf⟩
    · refine xs_if_lt (tgt := 22) d109_14 (by decide) (fun _ => ?_) (fun hn => absurd hc2 hn)
      refine xs_iconst (v := -1) d109_22 (by decide) ?_
      obtain ⟨eR, eH⟩ := K0 _ _ (Option.some.inj hf).symm
      subst eR; subst eH
      exact xs_iret d109_23 rt109
    · refine xs_if_lt (tgt := 22) d109_14 (by decide) (fun hp => absurd hp hc2) (fun _ => ?_)
      refine xs_iload_n d109_17 rfl ?_
      refine xs_iconst (v := 2) d109_18 (by decide) ?_
      rcases lk_if hf with ⟨hc3, hf⟩ | ⟨hc3, hf⟩
      · refine xs_icmp_le (tgt := 24) d109_19 (by decide) (fun _ => ?_) (fun hn => absurd hc3 hn)
        refine xs_aload_n d109_24 rfl ?_
        obtain ⟨h6, hc5, hf⟩ := lk_b hf
        refine xe_callv0 (as := []) (st := []) (h2 := h6) (d2 := d - 1) d109_25 ky109 ml67 st131 (by decide) cn131 rfl na131 (Nat.le_of_ble_eq_true rfl) (by omega) (f_B_startNow_ok (by omega) hc5) ?_
        refine xs_bipush (v := -2) d109_28 (by decide) ?_
        refine xe_istore_n (v := (-2 : Int32)) (ls2 := [(0, xr 11 (some 0)), (1, xi v1), (2, xi (-2 : Int32))]) d109_30 mx109 (by decide) rfl rfl ?_
        refine xs_iconst (v := 0) d109_31 (by decide) ?_
        refine xe_istore_n (v := (0 : Int32)) (ls2 := [(0, xr 11 (some 0)), (1, xi v1), (2, xi (-2 : Int32)), (3, xi (0 : Int32))]) d109_32 mx109 (by decide) rfl rfl ?_
        exact f_B_dusk_l33_ok hD hf K0
      · refine xs_icmp_le (tgt := 24) d109_19 (by decide) (fun hp => absurd hp hc3) (fun _ => ?_)
        refine xs_iconst (v := -1) d109_22 (by decide) ?_
        obtain ⟨eR, eH⟩ := K0 _ _ (Option.some.inj hf).symm
        subst eR; subst eH
        exact xs_iret d109_23 rt109
noncomputable def f_B_dusk (v1 : Int32) (h : xH) : Option (Int32 × xH) := f_B_dusk_e v1 h
theorem f_B_dusk_ok {g : xG} {l : Launch} {d : Nat} {v1 : Int32} {h : xH} {r : Int32} {h1 : xH} (hD : 5 ≤ d) (hf : f_B_dusk v1 h = some (r, h1)) : xC g l d 109 [xr 11 (some 0), xi v1] h (some (xi r)) h1 :=
  xC_of (by decide) (Nat.le_of_ble_eq_true rfl) (f_B_dusk_e_ok hD hf (fun _ _ e => by cases e; exact ⟨rfl, rfl⟩))
theorem d133_0 : decode (xcode 133) 0 = .ok (.aload_n 0, 1) := by decide +kernel
theorem d133_1 : decode (xcode 133) 1 = .ok (.invokevirtual 184, 3) := by decide +kernel
theorem d133_4 : decode (xcode 133) 4 = .ok (.aload_n 0, 1) := by decide +kernel
theorem d133_5 : decode (xcode 133) 5 = .ok (.getfield 77, 3) := by decide +kernel
theorem d133_8 : decode (xcode 133) 8 = .ok (.getfield 190, 3) := by decide +kernel
theorem d133_11 : decode (xcode 133) 11 = .ok (.iload_n 1, 1) := by decide +kernel
theorem d133_12 : decode (xcode 133) 12 = .ok (.invokevirtual 206, 3) := by decide +kernel
theorem d133_15 : decode (xcode 133) 15 = .ok (.aload_n 0, 1) := by decide +kernel
theorem d133_16 : decode (xcode 133) 16 = .ok (.getfield 55, 3) := by decide +kernel
theorem d133_19 : decode (xcode 133) 19 = .ok (.getfield 114, 3) := by decide +kernel
theorem d133_22 : decode (xcode 133) 22 = .ok (.getfield 196, 3) := by decide +kernel
theorem d133_25 : decode (xcode 133) 25 = .ok (.aload_n 0, 1) := by decide +kernel
theorem d133_26 : decode (xcode 133) 26 = .ok (.getfield 77, 3) := by decide +kernel
theorem d133_29 : decode (xcode 133) 29 = .ok (.getfield 190, 3) := by decide +kernel
theorem d133_32 : decode (xcode 133) 32 = .ok (.getfield 151, 3) := by decide +kernel
theorem d133_35 : decode (xcode 133) 35 = .ok (.iload_n 2, 1) := by decide +kernel
theorem d133_36 : decode (xcode 133) 36 = .ok (.iaload, 1) := by decide +kernel
theorem d133_37 : decode (xcode 133) 37 = .ok (.isub, 1) := by decide +kernel
theorem d133_38 : decode (xcode 133) 38 = .ok (.istore_n 3, 1) := by decide +kernel
theorem d133_39 : decode (xcode 133) 39 = .ok (.iconst 0, 1) := by decide +kernel
theorem d133_40 : decode (xcode 133) 40 = .ok (.istore 4, 2) := by decide +kernel
theorem d133_42 : decode (xcode 133) 42 = .ok (.iload 4, 2) := by decide +kernel
theorem d133_44 : decode (xcode 133) 44 = .ok (.bipush 100, 2) := by decide +kernel
theorem d133_46 : decode (xcode 133) 46 = .ok (.if_icmp .ge 56, 3) := by decide +kernel
theorem d133_49 : decode (xcode 133) 49 = .ok (.aload_n 0, 1) := by decide +kernel
theorem d133_50 : decode (xcode 133) 50 = .ok (.getfield 77, 3) := by decide +kernel
theorem d133_53 : decode (xcode 133) 53 = .ok (.getfield 190, 3) := by decide +kernel
theorem d133_56 : decode (xcode 133) 56 = .ok (.getfield 203, 3) := by decide +kernel
theorem d133_59 : decode (xcode 133) 59 = .ok (.iload_n 3, 1) := by decide +kernel
theorem d133_60 : decode (xcode 133) 60 = .ok (.if_icmp .gt 42, 3) := by decide +kernel
theorem d133_63 : decode (xcode 133) 63 = .ok (.aload_n 0, 1) := by decide +kernel
theorem d133_64 : decode (xcode 133) 64 = .ok (.getfield 77, 3) := by decide +kernel
theorem d133_67 : decode (xcode 133) 67 = .ok (.getfield 356, 3) := by decide +kernel
theorem d133_70 : decode (xcode 133) 70 = .ok (.ifCond .ne 32, 3) := by decide +kernel
theorem d133_73 : decode (xcode 133) 73 = .ok (.aload_n 0, 1) := by decide +kernel
theorem d133_74 : decode (xcode 133) 74 = .ok (.getfield 77, 3) := by decide +kernel
theorem d133_77 : decode (xcode 133) 77 = .ok (.invokevirtual 187, 3) := by decide +kernel
theorem d133_80 : decode (xcode 133) 80 = .ok (.iload_n 2, 1) := by decide +kernel
theorem d133_81 : decode (xcode 133) 81 = .ok (.if_icmp .ne 15, 3) := by decide +kernel
theorem d133_84 : decode (xcode 133) 84 = .ok (.aload_n 0, 1) := by decide +kernel
theorem d133_85 : decode (xcode 133) 85 = .ok (.getfield 77, 3) := by decide +kernel
theorem d133_88 : decode (xcode 133) 88 = .ok (.getfield 190, 3) := by decide +kernel
theorem d133_91 : decode (xcode 133) 91 = .ok (.iload_n 2, 1) := by decide +kernel
theorem d133_92 : decode (xcode 133) 92 = .ok (.invokevirtual 238, 3) := by decide +kernel
theorem d133_95 : decode (xcode 133) 95 = .ok (.ireturn, 1) := by decide +kernel
theorem d133_96 : decode (xcode 133) 96 = .ok (.iinc 4 1, 3) := by decide +kernel
theorem d133_99 : decode (xcode 133) 99 = .ok (.goto (-57), 3) := by decide +kernel
theorem d133_102 : decode (xcode 133) 102 = .ok (.iconst 0, 1) := by decide +kernel
theorem d133_103 : decode (xcode 133) 103 = .ok (.ireturn, 1) := by decide +kernel
noncomputable def f_B_isLetBeAfter_b84 (v2 : Int32) (h : xH) : Option (Int32 × xH) :=
  (f_State_isLetBe 25 v2 h).bind fun r16 =>
  if r16 = 0 ∨ r16 = 1 then (
  some ((r16, h))) else none
set_option maxHeartbeats 4000000 in
set_option maxRecDepth 100000 in
theorem f_B_isLetBeAfter_b84_ok {g : xG} {l : Launch} {d : Nat} {v2 : Int32} {h : xH} {o : (Int32 × xH)} {R : Option xV} {H' : xH} (hD : 5 ≤ d) (hf : f_B_isLetBeAfter_b84 v2 h = some o) (K0 : ∀ (a : Int32) (h1 : xH), o = (a, h1) → R = some (xi a) ∧ H' = h1) : xEv g l d 133 84 [(0, xr 11 (some 0)), (2, xi v2)] [] h R H' := by
  unfold f_B_isLetBeAfter_b84 at hf
  refine xs_aload_n d133_84 rfl ?_
  refine xe_getc (j := 0) d133_85 ky133 fl157 fk11_10 rfl ?_
  refine xe_getc (j := 25) d133_88 ky133 fl112 fk10_0 rfl ?_
  refine xs_iload_n d133_91 rfl ?_
  obtain ⟨r16, hc17, hf⟩ := lk_b hf
  refine xe_callv1 (as := [xi v2]) (st := []) (h2 := h) (d2 := d - 1) d133_92 ky133 ml108 st48 (by decide) cn48 rfl na48 (Nat.le_of_ble_eq_true rfl) (by omega) (f_State_isLetBe_ok (by omega) hc17) ?_
  obtain ⟨hz18, hf⟩ := lk_g hf
  obtain ⟨eR, eH⟩ := K0 _ _ (Option.some.inj hf).symm
  subst eR; subst eH
  exact xe_zret d133_95 hz18 rt133
noncomputable def f_B_isLetBeAfter_s42 (v2 : Int32) (v3 : Int32) (v4 : Int32) (h : xH) : Option ((Int32 × xH) ⊕ (Int32 × xH)) :=
  if (100 : Int32) ≤ v4 then (
  some (Sum.inr (((0 : Int32), h)))) else (
  if v3 < (h.1 6 0 25) then (
  some (Sum.inr (((0 : Int32), h)))) else (
  if (h.1 10 1 0) = (0 : Int32) then (
  (f_Walk_goOn h).bind fun q14 =>
  if q14.1 = v2 then (
  xup (f_B_isLetBeAfter_b84 v2 q14.2)) else (
  xlet (v4 + (1 : Int32)) fun v4_19 =>
  some (Sum.inl (v4_19, q14.2)))) else (
  some (Sum.inr (((0 : Int32), h))))))
set_option maxHeartbeats 4000000 in
set_option maxRecDepth 100000 in
theorem f_B_isLetBeAfter_s42_ok {g : xG} {l : Launch} {d : Nat} {v2 : Int32} {v3 : Int32} {v4 : Int32} {h : xH} {o : ((Int32 × xH) ⊕ (Int32 × xH))} {R : Option xV} {H' : xH} (hD : 5 ≤ d) (hf : f_B_isLetBeAfter_s42 v2 v3 v4 h = some o) (K1 : ∀ (w4 : Int32) (h1 : xH), o = Sum.inl (w4, h1) → xEv g l d 133 42 [(0, xr 11 (some 0)), (2, xi v2), (3, xi v3), (4, xi w4)] [] h1 R H') (K0 : ∀ (a : Int32) (h1 : xH), o = Sum.inr ((a, h1)) → R = some (xi a) ∧ H' = h1) : xEv g l d 133 42 [(0, xr 11 (some 0)), (2, xi v2), (3, xi v3), (4, xi v4)] [] h R H' := by
  unfold f_B_isLetBeAfter_s42 at hf
  refine xs_iload d133_42 rfl ?_
  refine xs_bipush (v := 100) d133_44 (by decide) ?_
  rcases lk_if hf with ⟨hc9, hf⟩ | ⟨hc9, hf⟩
  · refine xs_icmp_ge (tgt := 102) d133_46 (by decide) (fun _ => ?_) (fun hn => absurd hc9 hn)
    refine xs_iconst (v := 0) d133_102 (by decide) ?_
    obtain ⟨eR, eH⟩ := K0 _ _ (Option.some.inj hf).symm
    subst eR; subst eH
    exact xe_zret d133_103 (Or.inl rfl) rt133
  · refine xs_icmp_ge (tgt := 102) d133_46 (by decide) (fun hp => absurd hp hc9) (fun _ => ?_)
    refine xs_aload_n d133_49 rfl ?_
    refine xe_getc (j := 0) d133_50 ky133 fl157 fk11_10 rfl ?_
    refine xe_getc (j := 25) d133_53 ky133 fl112 fk10_0 rfl ?_
    refine xe_geti d133_56 ky133 fl70 fk6_0 ?_
    refine xs_iload_n d133_59 rfl ?_
    rcases lk_if hf with ⟨hc10, hf⟩ | ⟨hc10, hf⟩
    · refine xs_icmp_gt (tgt := 102) d133_60 (by decide) (fun _ => ?_) (fun hn => absurd hc10 hn)
      refine xs_iconst (v := 0) d133_102 (by decide) ?_
      obtain ⟨eR, eH⟩ := K0 _ _ (Option.some.inj hf).symm
      subst eR; subst eH
      exact xe_zret d133_103 (Or.inl rfl) rt133
    · refine xs_icmp_gt (tgt := 102) d133_60 (by decide) (fun hp => absurd hp hc10) (fun _ => ?_)
      refine xs_aload_n d133_63 rfl ?_
      refine xe_getc (j := 0) d133_64 ky133 fl157 fk11_10 rfl ?_
      refine xe_geti d133_67 ky133 fl114 fk10_1 ?_
      rcases lk_if hf with ⟨hc11, hf⟩ | ⟨hc11, hf⟩
      · refine xs_if_ne (tgt := 102) d133_70 (by decide) (fun _ => ?_) (fun hn => absurd hc11 hn)
        refine xs_aload_n d133_73 rfl ?_
        refine xe_getc (j := 0) d133_74 ky133 fl157 fk11_10 rfl ?_
        obtain ⟨q14, hc13, hf⟩ := lk_b hf
        refine xe_callv1 (as := []) (st := []) (h2 := q14.2) (d2 := d - 1) d133_77 ky133 ml71 st87 (by decide) cn87 rfl na87 (Nat.le_of_ble_eq_true rfl) (by omega) (f_Walk_goOn_ok (by omega) hc13) ?_
        refine xs_iload_n d133_80 rfl ?_
        rcases lk_if hf with ⟨hc15, hf⟩ | ⟨hc15, hf⟩
        · refine xs_icmp_ne (tgt := 96) d133_81 (by decide) (fun _ => ?_) (fun hn => absurd hc15 hn)
          refine xs_pick [0, 1] rfl ?_
          obtain ⟨x0, hf, ex0⟩ := lk_up hf
          exact f_B_isLetBeAfter_b84_ok hD hf (fun u0 u1 e => K0 u0 u1 (ex0.trans (congrArg Sum.inr e)))
        · refine xs_icmp_ne (tgt := 96) d133_81 (by decide) (fun hp => absurd hp hc15) (fun _ => ?_)
          obtain ⟨v4_19, ev4_19, hf⟩ := lk_let hf
          refine xe_iinc (v := v4_19) (b := 1) (ls2 := [(0, xr 11 (some 0)), (2, xi v2), (3, xi v3), (4, xi v4_19)]) d133_96 mx133 (by decide) rfl (by decide) ev4_19 rfl ?_
          refine xs_goto (tgt := 42) d133_99 (by decide) ?_
          exact K1 _ _ (Option.some.inj hf).symm
      · refine xs_if_ne (tgt := 102) d133_70 (by decide) (fun hp => absurd hp hc11) (fun _ => ?_)
        refine xs_iconst (v := 0) d133_102 (by decide) ?_
        obtain ⟨eR, eH⟩ := K0 _ _ (Option.some.inj hf).symm
        subst eR; subst eH
        exact xe_zret d133_103 (Or.inl rfl) rt133
noncomputable def f_B_isLetBeAfter_l42 (v2 : Int32) (v3 : Int32) (v4 : Int32) (h : xH) : Option (Int32 × xH) :=
  whl (fun s => f_B_isLetBeAfter_s42 v2 v3 s.1 s.2) (v4, h)
theorem f_B_isLetBeAfter_l42_ok {g : xG} {l : Launch} {d : Nat} {v2 : Int32} {v3 : Int32} {v4 : Int32} {h : xH} {o : (Int32 × xH)} {R : Option xV} {H' : xH} (hD : 5 ≤ d) (hf : f_B_isLetBeAfter_l42 v2 v3 v4 h = some o) (K0 : ∀ (a : Int32) (h1 : xH), o = (a, h1) → R = some (xi a) ∧ H' = h1) : xEv g l d 133 42 [(0, xr 11 (some 0)), (2, xi v2), (3, xi v3), (4, xi v4)] [] h R H' := by
  obtain ⟨n, hn⟩ := whl_iff.mp hf
  clear hf
  induction n generalizing v4 h with
  | zero => cases hn
  | succ n ih =>
    obtain ⟨o2, hs, hn⟩ := lk_b (show (f_B_isLetBeAfter_s42 v2 v3 v4 h).bind (fun o => Sum.elim (itn _ n) some o) = some o from hn)
    exact f_B_isLetBeAfter_s42_ok hD hs (fun u0 u1 e => ih (by rw [e] at hn; exact hn)) (fun u0 u1 e => K0 u0 u1 (by rw [e] at hn; exact (Option.some.inj hn).symm))
noncomputable def f_B_isLetBeAfter_e (v1 : Int32) (v2 : Int32) (h : xH) : Option (Int32 × xH) :=
  (f_B_startNow h).bind fun h3 =>
  (f_State_pass 25 v1 h3).bind fun h6 =>
  if xib v2 8 then (
  xlet ((h6.1 8 1 0) - (h6.2.2.2.1 32 25 (v2).toNatClampNeg)) fun v3_8 =>
  f_B_isLetBeAfter_l42 v2 v3_8 (0 : Int32) h6) else none
set_option maxHeartbeats 4000000 in
set_option maxRecDepth 100000 in
theorem f_B_isLetBeAfter_e_ok {g : xG} {l : Launch} {d : Nat} {v1 : Int32} {v2 : Int32} {h : xH} {o : (Int32 × xH)} {R : Option xV} {H' : xH} (hD : 5 ≤ d) (hf : f_B_isLetBeAfter_e v1 v2 h = some o) (K0 : ∀ (a : Int32) (h1 : xH), o = (a, h1) → R = some (xi a) ∧ H' = h1) : xEv g l d 133 0 [(0, xr 11 (some 0)), (1, xi v1), (2, xi v2)] [] h R H' := by
  unfold f_B_isLetBeAfter_e at hf
  refine xs_aload_n d133_0 rfl ?_
  obtain ⟨h3, hc2, hf⟩ := lk_b hf
  refine xe_callv0 (as := []) (st := []) (h2 := h3) (d2 := d - 1) d133_1 ky133 ml67 st131 (by decide) cn131 rfl na131 (Nat.le_of_ble_eq_true rfl) (by omega) (f_B_startNow_ok (by omega) hc2) ?_
  refine xs_aload_n d133_4 rfl ?_
  refine xe_getc (j := 0) d133_5 ky133 fl157 fk11_10 rfl ?_
  refine xe_getc (j := 25) d133_8 ky133 fl112 fk10_0 rfl ?_
  refine xs_iload_n d133_11 rfl ?_
  obtain ⟨h6, hc5, hf⟩ := lk_b hf
  refine xe_callv0 (as := [xi v1]) (st := []) (h2 := h6) (d2 := d - 1) d133_12 ky133 ml96 st54 (by decide) cn54 rfl na54 (Nat.le_of_ble_eq_true rfl) (by omega) (f_State_pass_ok (by omega) hc5) ?_
  refine xs_aload_n d133_15 rfl ?_
  refine xe_getc (j := 0) d133_16 ky133 fl153 fk11_6 rfl ?_
  refine xe_getc (j := 0) d133_19 ky133 fl96 fk4_0 rfl ?_
  refine xe_geti d133_22 ky133 fl24 fk8_1 ?_
  refine xs_aload_n d133_25 rfl ?_
  refine xe_getc (j := 0) d133_26 ky133 fl157 fk11_10 rfl ?_
  refine xe_getc (j := 25) d133_29 ky133 fl112 fk10_0 rfl ?_
  refine xe_getc (j := 25) d133_32 ky133 fl93 fk6_7 rfl ?_
  refine xs_iload_n d133_35 rfl ?_
  obtain ⟨hin7, hf⟩ := lk_g hf
  refine xe_iald d133_36 (by decide) ak32 hin7 ?_
  refine xs_isub d133_37 ?_
  obtain ⟨v3_8, ev3_8, hf⟩ := lk_let hf
  refine xe_istore_n (v := v3_8) (ls2 := [(0, xr 11 (some 0)), (1, xi v1), (2, xi v2), (3, xi v3_8)]) d133_38 mx133 (by decide) ev3_8 rfl ?_
  refine xs_iconst (v := 0) d133_39 (by decide) ?_
  refine xe_istore (v := (0 : Int32)) (ls2 := [(0, xr 11 (some 0)), (1, xi v1), (2, xi v2), (3, xi v3_8), (4, xi (0 : Int32))]) d133_40 mx133 (by decide) rfl rfl ?_
  refine xs_pick [0, 2, 3, 4] rfl ?_
  exact f_B_isLetBeAfter_l42_ok hD hf K0
noncomputable def f_B_isLetBeAfter (v1 : Int32) (v2 : Int32) (h : xH) : Option (Int32 × xH) := f_B_isLetBeAfter_e v1 v2 h
theorem f_B_isLetBeAfter_ok {g : xG} {l : Launch} {d : Nat} {v1 : Int32} {v2 : Int32} {h : xH} {r : Int32} {h1 : xH} (hD : 5 ≤ d) (hf : f_B_isLetBeAfter v1 v2 h = some (r, h1)) : xC g l d 133 [xr 11 (some 0), xi v1, xi v2] h (some (xi r)) h1 :=
  xC_of (by decide) (Nat.le_of_ble_eq_true rfl) (f_B_isLetBeAfter_e_ok hD hf (fun _ _ e => by cases e; exact ⟨rfl, rfl⟩))
theorem d110_0 : decode (xcode 110) 0 = .ok (.aload_n 0, 1) := by decide +kernel
theorem d110_1 : decode (xcode 110) 1 = .ok (.getfield 55, 3) := by decide +kernel
theorem d110_4 : decode (xcode 110) 4 = .ok (.getfield 121, 3) := by decide +kernel
theorem d110_7 : decode (xcode 110) 7 = .ok (.iload_n 1, 1) := by decide +kernel
theorem d110_8 : decode (xcode 110) 8 = .ok (.invokevirtual 209, 3) := by decide +kernel
theorem d110_11 : decode (xcode 110) 11 = .ok (.ifCond .ne 5, 3) := by decide +kernel
theorem d110_14 : decode (xcode 110) 14 = .ok (.iconst (-1), 1) := by decide +kernel
theorem d110_15 : decode (xcode 110) 15 = .ok (.ireturn, 1) := by decide +kernel
theorem d110_16 : decode (xcode 110) 16 = .ok (.aload_n 0, 1) := by decide +kernel
theorem d110_17 : decode (xcode 110) 17 = .ok (.getfield 55, 3) := by decide +kernel
theorem d110_20 : decode (xcode 110) 20 = .ok (.getfield 114, 3) := by decide +kernel
theorem d110_23 : decode (xcode 110) 23 = .ok (.getfield 196, 3) := by decide +kernel
theorem d110_26 : decode (xcode 110) 26 = .ok (.aload_n 0, 1) := by decide +kernel
theorem d110_27 : decode (xcode 110) 27 = .ok (.getfield 55, 3) := by decide +kernel
theorem d110_30 : decode (xcode 110) 30 = .ok (.getfield 121, 3) := by decide +kernel
theorem d110_33 : decode (xcode 110) 33 = .ok (.getfield 203, 3) := by decide +kernel
theorem d110_36 : decode (xcode 110) 36 = .ok (.isub, 1) := by decide +kernel
theorem d110_37 : decode (xcode 110) 37 = .ok (.aload_n 0, 1) := by decide +kernel
theorem d110_38 : decode (xcode 110) 38 = .ok (.getfield 55, 3) := by decide +kernel
theorem d110_41 : decode (xcode 110) 41 = .ok (.getfield 121, 3) := by decide +kernel
theorem d110_44 : decode (xcode 110) 44 = .ok (.getfield 151, 3) := by decide +kernel
theorem d110_47 : decode (xcode 110) 47 = .ok (.iload_n 1, 1) := by decide +kernel
theorem d110_48 : decode (xcode 110) 48 = .ok (.iaload, 1) := by decide +kernel
theorem d110_49 : decode (xcode 110) 49 = .ok (.isub, 1) := by decide +kernel
theorem d110_50 : decode (xcode 110) 50 = .ok (.istore_n 2, 1) := by decide +kernel
theorem d110_51 : decode (xcode 110) 51 = .ok (.sipush 300, 3) := by decide +kernel
theorem d110_54 : decode (xcode 110) 54 = .ok (.iload_n 2, 1) := by decide +kernel
theorem d110_55 : decode (xcode 110) 55 = .ok (.invokestatic 241, 3) := by decide +kernel
theorem d110_58 : decode (xcode 110) 58 = .ok (.istore_n 3, 1) := by decide +kernel
theorem d110_59 : decode (xcode 110) 59 = .ok (.iload_n 3, 1) := by decide +kernel
theorem d110_60 : decode (xcode 110) 60 = .ok (.ifCond .lt 20, 3) := by decide +kernel
theorem d110_63 : decode (xcode 110) 63 = .ok (.aload_n 0, 1) := by decide +kernel
theorem d110_64 : decode (xcode 110) 64 = .ok (.iload_n 3, 1) := by decide +kernel
theorem d110_65 : decode (xcode 110) 65 = .ok (.iload_n 1, 1) := by decide +kernel
theorem d110_66 : decode (xcode 110) 66 = .ok (.invokevirtual 247, 3) := by decide +kernel
theorem d110_69 : decode (xcode 110) 69 = .ok (.ifCond .eq 5, 3) := by decide +kernel
theorem d110_72 : decode (xcode 110) 72 = .ok (.iload_n 3, 1) := by decide +kernel
theorem d110_73 : decode (xcode 110) 73 = .ok (.ireturn, 1) := by decide +kernel
theorem d110_74 : decode (xcode 110) 74 = .ok (.iinc 3 (-1), 3) := by decide +kernel
theorem d110_77 : decode (xcode 110) 77 = .ok (.goto (-18), 3) := by decide +kernel
theorem d110_80 : decode (xcode 110) 80 = .ok (.bipush (-2), 2) := by decide +kernel
theorem d110_82 : decode (xcode 110) 82 = .ok (.ireturn, 1) := by decide +kernel
noncomputable def f_B_slack_s59 (v1 : Int32) (v3 : Int32) (h : xH) : Option ((Int32 × xH) ⊕ (Int32 × xH)) :=
  if v3 < (0 : Int32) then (
  some (Sum.inr (((-2 : Int32), h)))) else (
  (f_B_isLetBeAfter v3 v1 h).bind fun q11 =>
  if q11.1 = (0 : Int32) then (
  xlet (v3 + (-1 : Int32)) fun v3_13 =>
  some (Sum.inl (v3_13, q11.2))) else (
  some (Sum.inr ((v3, q11.2)))))
set_option maxHeartbeats 4000000 in
set_option maxRecDepth 100000 in
theorem f_B_slack_s59_ok {g : xG} {l : Launch} {d : Nat} {v1 : Int32} {v3 : Int32} {h : xH} {o : ((Int32 × xH) ⊕ (Int32 × xH))} {R : Option xV} {H' : xH} (hD : 6 ≤ d) (hf : f_B_slack_s59 v1 v3 h = some o) (K1 : ∀ (w3 : Int32) (h1 : xH), o = Sum.inl (w3, h1) → xEv g l d 110 59 [(0, xr 11 (some 0)), (1, xi v1), (3, xi w3)] [] h1 R H') (K0 : ∀ (a : Int32) (h1 : xH), o = Sum.inr ((a, h1)) → R = some (xi a) ∧ H' = h1) : xEv g l d 110 59 [(0, xr 11 (some 0)), (1, xi v1), (3, xi v3)] [] h R H' := by
  unfold f_B_slack_s59 at hf
  refine xs_iload_n d110_59 rfl ?_
  rcases lk_if hf with ⟨hc8, hf⟩ | ⟨hc8, hf⟩
  · refine xs_if_lt (tgt := 80) d110_60 (by decide) (fun _ => ?_) (fun hn => absurd hc8 hn)
    refine xs_bipush (v := -2) d110_80 (by decide) ?_
    obtain ⟨eR, eH⟩ := K0 _ _ (Option.some.inj hf).symm
    subst eR; subst eH
    exact xs_iret d110_82 rt110
  · refine xs_if_lt (tgt := 80) d110_60 (by decide) (fun hp => absurd hp hc8) (fun _ => ?_)
    refine xs_aload_n d110_63 rfl ?_
    refine xs_iload_n d110_64 rfl ?_
    refine xs_iload_n d110_65 rfl ?_
    obtain ⟨q11, hc10, hf⟩ := lk_b hf
    refine xe_callv1 (as := [xi v3, xi v1]) (st := []) (h2 := q11.2) (d2 := d - 1) d110_66 ky110 ml111 st133 (by decide) cn133 rfl na133 (Nat.le_of_ble_eq_true rfl) (by omega) (f_B_isLetBeAfter_ok (by omega) hc10) ?_
    rcases lk_if hf with ⟨hc12, hf⟩ | ⟨hc12, hf⟩
    · refine xs_if_eq (tgt := 74) d110_69 (by decide) (fun _ => ?_) (fun hn => absurd hc12 hn)
      obtain ⟨v3_13, ev3_13, hf⟩ := lk_let hf
      refine xe_iinc (v := v3_13) (b := -1) (ls2 := [(0, xr 11 (some 0)), (1, xi v1), (3, xi v3_13)]) d110_74 mx110 (by decide) rfl (by decide) ev3_13 rfl ?_
      refine xs_goto (tgt := 59) d110_77 (by decide) ?_
      exact K1 _ _ (Option.some.inj hf).symm
    · refine xs_if_eq (tgt := 74) d110_69 (by decide) (fun hp => absurd hp hc12) (fun _ => ?_)
      refine xs_iload_n d110_72 rfl ?_
      obtain ⟨eR, eH⟩ := K0 _ _ (Option.some.inj hf).symm
      subst eR; subst eH
      exact xs_iret d110_73 rt110
noncomputable def f_B_slack_l59 (v1 : Int32) (v3 : Int32) (h : xH) : Option (Int32 × xH) :=
  whl (fun s => f_B_slack_s59 v1 s.1 s.2) (v3, h)
theorem f_B_slack_l59_ok {g : xG} {l : Launch} {d : Nat} {v1 : Int32} {v3 : Int32} {h : xH} {o : (Int32 × xH)} {R : Option xV} {H' : xH} (hD : 6 ≤ d) (hf : f_B_slack_l59 v1 v3 h = some o) (K0 : ∀ (a : Int32) (h1 : xH), o = (a, h1) → R = some (xi a) ∧ H' = h1) : xEv g l d 110 59 [(0, xr 11 (some 0)), (1, xi v1), (3, xi v3)] [] h R H' := by
  obtain ⟨n, hn⟩ := whl_iff.mp hf
  clear hf
  induction n generalizing v3 h with
  | zero => cases hn
  | succ n ih =>
    obtain ⟨o2, hs, hn⟩ := lk_b (show (f_B_slack_s59 v1 v3 h).bind (fun o => Sum.elim (itn _ n) some o) = some o from hn)
    exact f_B_slack_s59_ok hD hs (fun u0 u1 e => ih (by rw [e] at hn; exact hn)) (fun u0 u1 e => K0 u0 u1 (by rw [e] at hn; exact (Option.some.inj hn).symm))
noncomputable def f_B_slack_e (v1 : Int32) (h : xH) : Option (Int32 × xH) :=
  (f_State_isIn 0 v1 h).bind fun r1 =>
  if r1 = (0 : Int32) then (
  some (((-1 : Int32), h))) else (
  if xib v1 8 then (
  xlet (((h.1 8 1 0) - (h.1 6 0 0)) - (h.2.2.2.1 32 0 (v1).toNatClampNeg)) fun v2_5 =>
  (f_Math_min (300 : Int32) v2_5 h).bind fun r6 =>
  f_B_slack_l59 v1 r6 h) else none)
set_option maxHeartbeats 4000000 in
set_option maxRecDepth 100000 in
theorem f_B_slack_e_ok {g : xG} {l : Launch} {d : Nat} {v1 : Int32} {h : xH} {o : (Int32 × xH)} {R : Option xV} {H' : xH} (hD : 6 ≤ d) (hf : f_B_slack_e v1 h = some o) (K0 : ∀ (a : Int32) (h1 : xH), o = (a, h1) → R = some (xi a) ∧ H' = h1) : xEv g l d 110 0 [(0, xr 11 (some 0)), (1, xi v1)] [] h R H' := by
  unfold f_B_slack_e at hf
  refine xs_aload_n d110_0 rfl ?_
  refine xe_getc (j := 0) d110_1 ky110 fl153 fk11_6 rfl ?_
  refine xe_getc (j := 0) d110_4 ky110 fl98 fk4_1 rfl ?_
  refine xs_iload_n d110_7 rfl ?_
  obtain ⟨r1, hc2, hf⟩ := lk_b hf
  refine xe_callv1 (as := [xi v1]) (st := []) (h2 := h) (d2 := d - 1) d110_8 ky110 ml98 st47 (by decide) cn47 rfl na47 (Nat.le_of_ble_eq_true rfl) (by omega) (f_State_isIn_ok (by omega) hc2) ?_
  rcases lk_if hf with ⟨hc3, hf⟩ | ⟨hc3, hf⟩
  · refine xs_if_ne (tgt := 16) d110_11 (by decide) (fun _ => ?_) (fun hn => absurd hc3 hn)
    refine xs_iconst (v := -1) d110_14 (by decide) ?_
    obtain ⟨eR, eH⟩ := K0 _ _ (Option.some.inj hf).symm
    subst eR; subst eH
    exact xs_iret d110_15 rt110
  · refine xs_if_ne (tgt := 16) d110_11 (by decide) (fun hp => absurd hp hc3) (fun _ => ?_)
    refine xs_aload_n d110_16 rfl ?_
    refine xe_getc (j := 0) d110_17 ky110 fl153 fk11_6 rfl ?_
    refine xe_getc (j := 0) d110_20 ky110 fl96 fk4_0 rfl ?_
    refine xe_geti d110_23 ky110 fl24 fk8_1 ?_
    refine xs_aload_n d110_26 rfl ?_
    refine xe_getc (j := 0) d110_27 ky110 fl153 fk11_6 rfl ?_
    refine xe_getc (j := 0) d110_30 ky110 fl98 fk4_1 rfl ?_
    refine xe_geti d110_33 ky110 fl70 fk6_0 ?_
    refine xs_isub d110_36 ?_
    refine xs_aload_n d110_37 rfl ?_
    refine xe_getc (j := 0) d110_38 ky110 fl153 fk11_6 rfl ?_
    refine xe_getc (j := 0) d110_41 ky110 fl98 fk4_1 rfl ?_
    refine xe_getc (j := 0) d110_44 ky110 fl93 fk6_7 rfl ?_
    refine xs_iload_n d110_47 rfl ?_
    obtain ⟨hin4, hf⟩ := lk_g hf
    refine xe_iald d110_48 (by decide) ak32 hin4 ?_
    refine xs_isub d110_49 ?_
    obtain ⟨v2_5, ev2_5, hf⟩ := lk_let hf
    refine xe_istore_n (v := v2_5) (ls2 := [(0, xr 11 (some 0)), (1, xi v1), (2, xi v2_5)]) d110_50 mx110 (by decide) ev2_5 rfl ?_
    refine xs_sipush (v := 300) d110_51 (by decide) ?_
    refine xs_iload_n d110_54 rfl ?_
    obtain ⟨r6, hc7, hf⟩ := lk_b hf
    refine xe_calls1 (as := [xi (300 : Int32), xi v2_5]) (st := []) (h2 := h) (d2 := d - 1) d110_55 ky110 ml110 st257 rfl na257 (Nat.le_of_ble_eq_true rfl) (by omega) (f_Math_min_ok (by omega) hc7) ?_
    refine xe_istore_n (v := r6) (ls2 := [(0, xr 11 (some 0)), (1, xi v1), (2, xi v2_5), (3, xi r6)]) d110_58 mx110 (by decide) rfl rfl ?_
    refine xs_pick [0, 1, 3] rfl ?_
    exact f_B_slack_l59_ok hD hf K0
noncomputable def f_B_slack (v1 : Int32) (h : xH) : Option (Int32 × xH) := f_B_slack_e v1 h
theorem f_B_slack_ok {g : xG} {l : Launch} {d : Nat} {v1 : Int32} {h : xH} {r : Int32} {h1 : xH} (hD : 6 ≤ d) (hf : f_B_slack v1 h = some (r, h1)) : xC g l d 110 [xr 11 (some 0), xi v1] h (some (xi r)) h1 :=
  xC_of (by decide) (Nat.le_of_ble_eq_true rfl) (f_B_slack_e_ok hD hf (fun _ _ e => by cases e; exact ⟨rfl, rfl⟩))
theorem d111_0 : decode (xcode 111) 0 = .ok (.aload_n 0, 1) := by decide +kernel
theorem d111_1 : decode (xcode 111) 1 = .ok (.getfield 55, 3) := by decide +kernel
theorem d111_4 : decode (xcode 111) 4 = .ok (.getfield 114, 3) := by decide +kernel
theorem d111_7 : decode (xcode 111) 7 = .ok (.getfield 173, 3) := by decide +kernel
theorem d111_10 : decode (xcode 111) 10 = .ok (.ifCond .eq 14, 3) := by decide +kernel
theorem d111_13 : decode (xcode 111) 13 = .ok (.iload_n 1, 1) := by decide +kernel
theorem d111_14 : decode (xcode 111) 14 = .ok (.ifCond .lt 10, 3) := by decide +kernel
theorem d111_17 : decode (xcode 111) 17 = .ok (.iload_n 1, 1) := by decide +kernel
theorem d111_18 : decode (xcode 111) 18 = .ok (.sipush 200, 3) := by decide +kernel
theorem d111_21 : decode (xcode 111) 21 = .ok (.if_icmp .le 5, 3) := by decide +kernel
theorem d111_24 : decode (xcode 111) 24 = .ok (.iconst (-1), 1) := by decide +kernel
theorem d111_25 : decode (xcode 111) 25 = .ok (.ireturn, 1) := by decide +kernel
theorem d111_26 : decode (xcode 111) 26 = .ok (.aload_n 0, 1) := by decide +kernel
theorem d111_27 : decode (xcode 111) 27 = .ok (.invokevirtual 184, 3) := by decide +kernel
theorem d111_30 : decode (xcode 111) 30 = .ok (.iconst 0, 1) := by decide +kernel
theorem d111_31 : decode (xcode 111) 31 = .ok (.istore_n 2, 1) := by decide +kernel
theorem d111_32 : decode (xcode 111) 32 = .ok (.iload_n 2, 1) := by decide +kernel
theorem d111_33 : decode (xcode 111) 33 = .ok (.bipush 100, 2) := by decide +kernel
theorem d111_35 : decode (xcode 111) 35 = .ok (.if_icmp .ge 43, 3) := by decide +kernel
theorem d111_38 : decode (xcode 111) 38 = .ok (.aload_n 0, 1) := by decide +kernel
theorem d111_39 : decode (xcode 111) 39 = .ok (.getfield 77, 3) := by decide +kernel
theorem d111_42 : decode (xcode 111) 42 = .ok (.getfield 190, 3) := by decide +kernel
theorem d111_45 : decode (xcode 111) 45 = .ok (.aload_n 0, 1) := by decide +kernel
theorem d111_46 : decode (xcode 111) 46 = .ok (.getfield 55, 3) := by decide +kernel
theorem d111_49 : decode (xcode 111) 49 = .ok (.getfield 114, 3) := by decide +kernel
theorem d111_52 : decode (xcode 111) 52 = .ok (.getfield 224, 3) := by decide +kernel
theorem d111_55 : decode (xcode 111) 55 = .ok (.invokevirtual 227, 3) := by decide +kernel
theorem d111_58 : decode (xcode 111) 58 = .ok (.iload_n 1, 1) := by decide +kernel
theorem d111_59 : decode (xcode 111) 59 = .ok (.if_icmp .gt 5, 3) := by decide +kernel
theorem d111_62 : decode (xcode 111) 62 = .ok (.iload_n 2, 1) := by decide +kernel
theorem d111_63 : decode (xcode 111) 63 = .ok (.ireturn, 1) := by decide +kernel
theorem d111_64 : decode (xcode 111) 64 = .ok (.aload_n 0, 1) := by decide +kernel
theorem d111_65 : decode (xcode 111) 65 = .ok (.getfield 77, 3) := by decide +kernel
theorem d111_68 : decode (xcode 111) 68 = .ok (.invokevirtual 187, 3) := by decide +kernel
theorem d111_71 : decode (xcode 111) 71 = .ok (.pop, 1) := by decide +kernel
theorem d111_72 : decode (xcode 111) 72 = .ok (.iinc 2 1, 3) := by decide +kernel
theorem d111_75 : decode (xcode 111) 75 = .ok (.goto (-43), 3) := by decide +kernel
theorem d111_78 : decode (xcode 111) 78 = .ok (.aload_n 0, 1) := by decide +kernel
theorem d111_79 : decode (xcode 111) 79 = .ok (.getfield 77, 3) := by decide +kernel
theorem d111_82 : decode (xcode 111) 82 = .ok (.getfield 190, 3) := by decide +kernel
theorem d111_85 : decode (xcode 111) 85 = .ok (.aload_n 0, 1) := by decide +kernel
theorem d111_86 : decode (xcode 111) 86 = .ok (.getfield 55, 3) := by decide +kernel
theorem d111_89 : decode (xcode 111) 89 = .ok (.getfield 114, 3) := by decide +kernel
theorem d111_92 : decode (xcode 111) 92 = .ok (.getfield 224, 3) := by decide +kernel
theorem d111_95 : decode (xcode 111) 95 = .ok (.invokevirtual 227, 3) := by decide +kernel
theorem d111_98 : decode (xcode 111) 98 = .ok (.iload_n 1, 1) := by decide +kernel
theorem d111_99 : decode (xcode 111) 99 = .ok (.if_icmp .gt 8, 3) := by decide +kernel
theorem d111_102 : decode (xcode 111) 102 = .ok (.bipush 100, 2) := by decide +kernel
theorem d111_104 : decode (xcode 111) 104 = .ok (.goto 5, 3) := by decide +kernel
theorem d111_107 : decode (xcode 111) 107 = .ok (.bipush (-2), 2) := by decide +kernel
theorem d111_109 : decode (xcode 111) 109 = .ok (.ireturn, 1) := by decide +kernel
noncomputable def f_B_light_b78 (v1 : Int32) (h : xH) : Option (Int32 × xH) :=
  (f_State_load 25 (h.1 8 2 0) h).bind fun r8 =>
  if v1 < r8 then (
  some (((-2 : Int32), h))) else (
  some (((100 : Int32), h)))
set_option maxHeartbeats 4000000 in
set_option maxRecDepth 100000 in
theorem f_B_light_b78_ok {g : xG} {l : Launch} {d : Nat} {v1 : Int32} {h : xH} {o : (Int32 × xH)} {R : Option xV} {H' : xH} (hD : 5 ≤ d) (hf : f_B_light_b78 v1 h = some o) (K0 : ∀ (a : Int32) (h1 : xH), o = (a, h1) → R = some (xi a) ∧ H' = h1) : xEv g l d 111 78 [(0, xr 11 (some 0)), (1, xi v1)] [] h R H' := by
  unfold f_B_light_b78 at hf
  refine xs_aload_n d111_78 rfl ?_
  refine xe_getc (j := 0) d111_79 ky111 fl157 fk11_10 rfl ?_
  refine xe_getc (j := 25) d111_82 ky111 fl112 fk10_0 rfl ?_
  refine xs_aload_n d111_85 rfl ?_
  refine xe_getc (j := 0) d111_86 ky111 fl153 fk11_6 rfl ?_
  refine xe_getc (j := 0) d111_89 ky111 fl96 fk4_0 rfl ?_
  refine xe_geti d111_92 ky111 fl28 fk8_2 ?_
  obtain ⟨r8, hc9, hf⟩ := lk_b hf
  refine xe_callv1 (as := [xi (h.1 8 2 0)]) (st := []) (h2 := h) (d2 := d - 1) d111_95 ky111 ml104 st52 (by decide) cn52 rfl na52 (Nat.le_of_ble_eq_true rfl) (by omega) (f_State_load_ok (by omega) hc9) ?_
  refine xs_iload_n d111_98 rfl ?_
  rcases lk_if hf with ⟨hc10, hf⟩ | ⟨hc10, hf⟩
  · refine xs_icmp_gt (tgt := 107) d111_99 (by decide) (fun _ => ?_) (fun hn => absurd hc10 hn)
    refine xs_bipush (v := -2) d111_107 (by decide) ?_
    obtain ⟨eR, eH⟩ := K0 _ _ (Option.some.inj hf).symm
    subst eR; subst eH
    exact xs_iret d111_109 rt111
  · refine xs_icmp_gt (tgt := 107) d111_99 (by decide) (fun hp => absurd hp hc10) (fun _ => ?_)
    refine xs_bipush (v := 100) d111_102 (by decide) ?_
    refine xs_goto (tgt := 109) d111_104 (by decide) ?_
    obtain ⟨eR, eH⟩ := K0 _ _ (Option.some.inj hf).symm
    subst eR; subst eH
    exact xs_iret d111_109 rt111
noncomputable def f_B_light_s32 (v1 : Int32) (v2 : Int32) (h : xH) : Option ((Int32 × xH) ⊕ (Int32 × xH)) :=
  if (100 : Int32) ≤ v2 then (
  xup (f_B_light_b78 v1 h)) else (
  (f_State_load 25 (h.1 8 2 0) h).bind fun r11 =>
  if v1 < r11 then (
  (f_Walk_goOn h).bind fun q16 =>
  xlet (v2 + (1 : Int32)) fun v2_17 =>
  some (Sum.inl (v2_17, q16.2))) else (
  some (Sum.inr ((v2, h)))))
set_option maxHeartbeats 4000000 in
set_option maxRecDepth 100000 in
theorem f_B_light_s32_ok {g : xG} {l : Launch} {d : Nat} {v1 : Int32} {v2 : Int32} {h : xH} {o : ((Int32 × xH) ⊕ (Int32 × xH))} {R : Option xV} {H' : xH} (hD : 5 ≤ d) (hf : f_B_light_s32 v1 v2 h = some o) (K1 : ∀ (w2 : Int32) (h1 : xH), o = Sum.inl (w2, h1) → xEv g l d 111 32 [(0, xr 11 (some 0)), (1, xi v1), (2, xi w2)] [] h1 R H') (K0 : ∀ (a : Int32) (h1 : xH), o = Sum.inr ((a, h1)) → R = some (xi a) ∧ H' = h1) : xEv g l d 111 32 [(0, xr 11 (some 0)), (1, xi v1), (2, xi v2)] [] h R H' := by
  unfold f_B_light_s32 at hf
  refine xs_iload_n d111_32 rfl ?_
  refine xs_bipush (v := 100) d111_33 (by decide) ?_
  rcases lk_if hf with ⟨hc7, hf⟩ | ⟨hc7, hf⟩
  · refine xs_icmp_ge (tgt := 78) d111_35 (by decide) (fun _ => ?_) (fun hn => absurd hc7 hn)
    refine xs_pick [0, 1] rfl ?_
    obtain ⟨x0, hf, ex0⟩ := lk_up hf
    exact f_B_light_b78_ok hD hf (fun u0 u1 e => K0 u0 u1 (ex0.trans (congrArg Sum.inr e)))
  · refine xs_icmp_ge (tgt := 78) d111_35 (by decide) (fun hp => absurd hp hc7) (fun _ => ?_)
    refine xs_aload_n d111_38 rfl ?_
    refine xe_getc (j := 0) d111_39 ky111 fl157 fk11_10 rfl ?_
    refine xe_getc (j := 25) d111_42 ky111 fl112 fk10_0 rfl ?_
    refine xs_aload_n d111_45 rfl ?_
    refine xe_getc (j := 0) d111_46 ky111 fl153 fk11_6 rfl ?_
    refine xe_getc (j := 0) d111_49 ky111 fl96 fk4_0 rfl ?_
    refine xe_geti d111_52 ky111 fl28 fk8_2 ?_
    obtain ⟨r11, hc12, hf⟩ := lk_b hf
    refine xe_callv1 (as := [xi (h.1 8 2 0)]) (st := []) (h2 := h) (d2 := d - 1) d111_55 ky111 ml104 st52 (by decide) cn52 rfl na52 (Nat.le_of_ble_eq_true rfl) (by omega) (f_State_load_ok (by omega) hc12) ?_
    refine xs_iload_n d111_58 rfl ?_
    rcases lk_if hf with ⟨hc13, hf⟩ | ⟨hc13, hf⟩
    · refine xs_icmp_gt (tgt := 64) d111_59 (by decide) (fun _ => ?_) (fun hn => absurd hc13 hn)
      refine xs_aload_n d111_64 rfl ?_
      refine xe_getc (j := 0) d111_65 ky111 fl157 fk11_10 rfl ?_
      obtain ⟨q16, hc15, hf⟩ := lk_b hf
      refine xe_callv1 (as := []) (st := []) (h2 := q16.2) (d2 := d - 1) d111_68 ky111 ml71 st87 (by decide) cn87 rfl na87 (Nat.le_of_ble_eq_true rfl) (by omega) (f_Walk_goOn_ok (by omega) hc15) ?_
      refine xs_pop d111_71 rfl ?_
      obtain ⟨v2_17, ev2_17, hf⟩ := lk_let hf
      refine xe_iinc (v := v2_17) (b := 1) (ls2 := [(0, xr 11 (some 0)), (1, xi v1), (2, xi v2_17)]) d111_72 mx111 (by decide) rfl (by decide) ev2_17 rfl ?_
      refine xs_goto (tgt := 32) d111_75 (by decide) ?_
      exact K1 _ _ (Option.some.inj hf).symm
    · refine xs_icmp_gt (tgt := 64) d111_59 (by decide) (fun hp => absurd hp hc13) (fun _ => ?_)
      refine xs_iload_n d111_62 rfl ?_
      obtain ⟨eR, eH⟩ := K0 _ _ (Option.some.inj hf).symm
      subst eR; subst eH
      exact xs_iret d111_63 rt111
noncomputable def f_B_light_l32 (v1 : Int32) (v2 : Int32) (h : xH) : Option (Int32 × xH) :=
  whl (fun s => f_B_light_s32 v1 s.1 s.2) (v2, h)
theorem f_B_light_l32_ok {g : xG} {l : Launch} {d : Nat} {v1 : Int32} {v2 : Int32} {h : xH} {o : (Int32 × xH)} {R : Option xV} {H' : xH} (hD : 5 ≤ d) (hf : f_B_light_l32 v1 v2 h = some o) (K0 : ∀ (a : Int32) (h1 : xH), o = (a, h1) → R = some (xi a) ∧ H' = h1) : xEv g l d 111 32 [(0, xr 11 (some 0)), (1, xi v1), (2, xi v2)] [] h R H' := by
  obtain ⟨n, hn⟩ := whl_iff.mp hf
  clear hf
  induction n generalizing v2 h with
  | zero => cases hn
  | succ n ih =>
    obtain ⟨o2, hs, hn⟩ := lk_b (show (f_B_light_s32 v1 v2 h).bind (fun o => Sum.elim (itn _ n) some o) = some o from hn)
    exact f_B_light_s32_ok hD hs (fun u0 u1 e => ih (by rw [e] at hn; exact hn)) (fun u0 u1 e => K0 u0 u1 (by rw [e] at hn; exact (Option.some.inj hn).symm))
noncomputable def f_B_light_e (v1 : Int32) (h : xH) : Option (Int32 × xH) :=
  if (h.1 8 0 0) = (0 : Int32) then (
  some (((-1 : Int32), h))) else (
  if v1 < (0 : Int32) then (
  some (((-1 : Int32), h))) else (
  if v1 ≤ (200 : Int32) then (
  (f_B_startNow h).bind fun h6 =>
  f_B_light_l32 v1 (0 : Int32) h6) else (
  some (((-1 : Int32), h)))))
set_option maxHeartbeats 4000000 in
set_option maxRecDepth 100000 in
theorem f_B_light_e_ok {g : xG} {l : Launch} {d : Nat} {v1 : Int32} {h : xH} {o : (Int32 × xH)} {R : Option xV} {H' : xH} (hD : 5 ≤ d) (hf : f_B_light_e v1 h = some o) (K0 : ∀ (a : Int32) (h1 : xH), o = (a, h1) → R = some (xi a) ∧ H' = h1) : xEv g l d 111 0 [(0, xr 11 (some 0)), (1, xi v1)] [] h R H' := by
  unfold f_B_light_e at hf
  refine xs_aload_n d111_0 rfl ?_
  refine xe_getc (j := 0) d111_1 ky111 fl153 fk11_6 rfl ?_
  refine xe_getc (j := 0) d111_4 ky111 fl96 fk4_0 rfl ?_
  refine xe_geti d111_7 ky111 fl19 fk8_0 ?_
  rcases lk_if hf with ⟨hc1, hf⟩ | ⟨hc1, hf⟩
  · refine xs_if_eq (tgt := 24) d111_10 (by decide) (fun _ => ?_) (fun hn => absurd hc1 hn)
    refine xs_iconst (v := -1) d111_24 (by decide) ?_
    obtain ⟨eR, eH⟩ := K0 _ _ (Option.some.inj hf).symm
    subst eR; subst eH
    exact xs_iret d111_25 rt111
  · refine xs_if_eq (tgt := 24) d111_10 (by decide) (fun hp => absurd hp hc1) (fun _ => ?_)
    refine xs_iload_n d111_13 rfl ?_
    rcases lk_if hf with ⟨hc2, hf⟩ | ⟨hc2, hf⟩
    · refine xs_if_lt (tgt := 24) d111_14 (by decide) (fun _ => ?_) (fun hn => absurd hc2 hn)
      refine xs_iconst (v := -1) d111_24 (by decide) ?_
      obtain ⟨eR, eH⟩ := K0 _ _ (Option.some.inj hf).symm
      subst eR; subst eH
      exact xs_iret d111_25 rt111
    · refine xs_if_lt (tgt := 24) d111_14 (by decide) (fun hp => absurd hp hc2) (fun _ => ?_)
      refine xs_iload_n d111_17 rfl ?_
      refine xs_sipush (v := 200) d111_18 (by decide) ?_
      rcases lk_if hf with ⟨hc3, hf⟩ | ⟨hc3, hf⟩
      · refine xs_icmp_le (tgt := 26) d111_21 (by decide) (fun _ => ?_) (fun hn => absurd hc3 hn)
        refine xs_aload_n d111_26 rfl ?_
        obtain ⟨h6, hc5, hf⟩ := lk_b hf
        refine xe_callv0 (as := []) (st := []) (h2 := h6) (d2 := d - 1) d111_27 ky111 ml67 st131 (by decide) cn131 rfl na131 (Nat.le_of_ble_eq_true rfl) (by omega) (f_B_startNow_ok (by omega) hc5) ?_
        refine xs_iconst (v := 0) d111_30 (by decide) ?_
        refine xe_istore_n (v := (0 : Int32)) (ls2 := [(0, xr 11 (some 0)), (1, xi v1), (2, xi (0 : Int32))]) d111_31 mx111 (by decide) rfl rfl ?_
        exact f_B_light_l32_ok hD hf K0
      · refine xs_icmp_le (tgt := 26) d111_21 (by decide) (fun hp => absurd hp hc3) (fun _ => ?_)
        refine xs_iconst (v := -1) d111_24 (by decide) ?_
        obtain ⟨eR, eH⟩ := K0 _ _ (Option.some.inj hf).symm
        subst eR; subst eH
        exact xs_iret d111_25 rt111
noncomputable def f_B_light (v1 : Int32) (h : xH) : Option (Int32 × xH) := f_B_light_e v1 h
theorem f_B_light_ok {g : xG} {l : Launch} {d : Nat} {v1 : Int32} {h : xH} {r : Int32} {h1 : xH} (hD : 5 ≤ d) (hf : f_B_light v1 h = some (r, h1)) : xC g l d 111 [xr 11 (some 0), xi v1] h (some (xi r)) h1 :=
  xC_of (by decide) (Nat.le_of_ble_eq_true rfl) (f_B_light_e_ok hD hf (fun _ _ e => by cases e; exact ⟨rfl, rfl⟩))
theorem d112_0 : decode (xcode 112) 0 = .ok (.aload_n 0, 1) := by decide +kernel
theorem d112_1 : decode (xcode 112) 1 = .ok (.getfield 55, 3) := by decide +kernel
theorem d112_4 : decode (xcode 112) 4 = .ok (.getfield 114, 3) := by decide +kernel
theorem d112_7 : decode (xcode 112) 7 = .ok (.getfield 173, 3) := by decide +kernel
theorem d112_10 : decode (xcode 112) 10 = .ok (.ifCond .eq 15, 3) := by decide +kernel
theorem d112_13 : decode (xcode 112) 13 = .ok (.iload_n 1, 1) := by decide +kernel
theorem d112_14 : decode (xcode 112) 14 = .ok (.bipush (-2), 2) := by decide +kernel
theorem d112_16 : decode (xcode 112) 16 = .ok (.if_icmp .lt 9, 3) := by decide +kernel
theorem d112_19 : decode (xcode 112) 19 = .ok (.iload_n 1, 1) := by decide +kernel
theorem d112_20 : decode (xcode 112) 20 = .ok (.bipush 8, 2) := by decide +kernel
theorem d112_22 : decode (xcode 112) 22 = .ok (.if_icmp .lt 6, 3) := by decide +kernel
theorem d112_25 : decode (xcode 112) 25 = .ok (.bipush (-3), 2) := by decide +kernel
theorem d112_27 : decode (xcode 112) 27 = .ok (.ireturn, 1) := by decide +kernel
theorem d112_28 : decode (xcode 112) 28 = .ok (.aload_n 0, 1) := by decide +kernel
theorem d112_29 : decode (xcode 112) 29 = .ok (.getfield 84, 3) := by decide +kernel
theorem d112_32 : decode (xcode 112) 32 = .ok (.aload_n 0, 1) := by decide +kernel
theorem d112_33 : decode (xcode 112) 33 = .ok (.getfield 55, 3) := by decide +kernel
theorem d112_36 : decode (xcode 112) 36 = .ok (.getfield 114, 3) := by decide +kernel
theorem d112_39 : decode (xcode 112) 39 = .ok (.aload_n 0, 1) := by decide +kernel
theorem d112_40 : decode (xcode 112) 40 = .ok (.getfield 55, 3) := by decide +kernel
theorem d112_43 : decode (xcode 112) 43 = .ok (.getfield 121, 3) := by decide +kernel
theorem d112_46 : decode (xcode 112) 46 = .ok (.invokevirtual 251, 3) := by decide +kernel
theorem d112_49 : decode (xcode 112) 49 = .ok (.iload_n 1, 1) := by decide +kernel
theorem d112_50 : decode (xcode 112) 50 = .ok (.iconst (-1), 1) := by decide +kernel
theorem d112_51 : decode (xcode 112) 51 = .ok (.if_icmp .ne 11, 3) := by decide +kernel
theorem d112_54 : decode (xcode 112) 54 = .ok (.aload_n 0, 1) := by decide +kernel
theorem d112_55 : decode (xcode 112) 55 = .ok (.getfield 84, 3) := by decide +kernel
theorem d112_58 : decode (xcode 112) 58 = .ok (.getfield 255, 3) := by decide +kernel
theorem d112_61 : decode (xcode 112) 61 = .ok (.ireturn, 1) := by decide +kernel
theorem d112_62 : decode (xcode 112) 62 = .ok (.iload_n 1, 1) := by decide +kernel
theorem d112_63 : decode (xcode 112) 63 = .ok (.bipush (-2), 2) := by decide +kernel
theorem d112_65 : decode (xcode 112) 65 = .ok (.if_icmp .ne 11, 3) := by decide +kernel
theorem d112_68 : decode (xcode 112) 68 = .ok (.aload_n 0, 1) := by decide +kernel
theorem d112_69 : decode (xcode 112) 69 = .ok (.getfield 84, 3) := by decide +kernel
theorem d112_72 : decode (xcode 112) 72 = .ok (.getfield 258, 3) := by decide +kernel
theorem d112_75 : decode (xcode 112) 75 = .ok (.ireturn, 1) := by decide +kernel
theorem d112_76 : decode (xcode 112) 76 = .ok (.iload_n 1, 1) := by decide +kernel
theorem d112_77 : decode (xcode 112) 77 = .ok (.aload_n 0, 1) := by decide +kernel
theorem d112_78 : decode (xcode 112) 78 = .ok (.getfield 84, 3) := by decide +kernel
theorem d112_81 : decode (xcode 112) 81 = .ok (.getfield 261, 3) := by decide +kernel
theorem d112_84 : decode (xcode 112) 84 = .ok (.if_icmp .ge 15, 3) := by decide +kernel
theorem d112_87 : decode (xcode 112) 87 = .ok (.aload_n 0, 1) := by decide +kernel
theorem d112_88 : decode (xcode 112) 88 = .ok (.getfield 84, 3) := by decide +kernel
theorem d112_91 : decode (xcode 112) 91 = .ok (.getfield 264, 3) := by decide +kernel
theorem d112_94 : decode (xcode 112) 94 = .ok (.iload_n 1, 1) := by decide +kernel
theorem d112_95 : decode (xcode 112) 95 = .ok (.iaload, 1) := by decide +kernel
theorem d112_96 : decode (xcode 112) 96 = .ok (.goto 5, 3) := by decide +kernel
theorem d112_99 : decode (xcode 112) 99 = .ok (.bipush (-2), 2) := by decide +kernel
theorem d112_101 : decode (xcode 112) 101 = .ok (.ireturn, 1) := by decide +kernel
noncomputable def f_B_order_e (v1 : Int32) (h : xH) : Option (Int32 × xH) :=
  if (h.1 8 0 0) = (0 : Int32) then (
  some (((-3 : Int32), h))) else (
  if v1 < (-2 : Int32) then (
  some (((-3 : Int32), h))) else (
  if v1 < (8 : Int32) then (
  (f_Sets_findRow 0 0 h).bind fun h6 =>
  if v1 = (-1 : Int32) then (
  some ((h6.1 5 2 0, h6))) else (
  if v1 = (-2 : Int32) then (
  some ((h6.1 5 3 0, h6))) else (
  if (h6.1 5 1 0) ≤ v1 then (
  some (((-2 : Int32), h6))) else (
  if xib v1 8 then (
  some ((h6.2.2.2.1 22 0 (v1).toNatClampNeg, h6))) else none)))) else (
  some (((-3 : Int32), h)))))
set_option maxHeartbeats 4000000 in
set_option maxRecDepth 100000 in
theorem f_B_order_e_ok {g : xG} {l : Launch} {d : Nat} {v1 : Int32} {h : xH} {o : (Int32 × xH)} {R : Option xV} {H' : xH} (hD : 4 ≤ d) (hf : f_B_order_e v1 h = some o) (K0 : ∀ (a : Int32) (h1 : xH), o = (a, h1) → R = some (xi a) ∧ H' = h1) : xEv g l d 112 0 [(0, xr 11 (some 0)), (1, xi v1)] [] h R H' := by
  unfold f_B_order_e at hf
  refine xs_aload_n d112_0 rfl ?_
  refine xe_getc (j := 0) d112_1 ky112 fl153 fk11_6 rfl ?_
  refine xe_getc (j := 0) d112_4 ky112 fl96 fk4_0 rfl ?_
  refine xe_geti d112_7 ky112 fl19 fk8_0 ?_
  rcases lk_if hf with ⟨hc1, hf⟩ | ⟨hc1, hf⟩
  · refine xs_if_eq (tgt := 25) d112_10 (by decide) (fun _ => ?_) (fun hn => absurd hc1 hn)
    refine xs_bipush (v := -3) d112_25 (by decide) ?_
    obtain ⟨eR, eH⟩ := K0 _ _ (Option.some.inj hf).symm
    subst eR; subst eH
    exact xs_iret d112_27 rt112
  · refine xs_if_eq (tgt := 25) d112_10 (by decide) (fun hp => absurd hp hc1) (fun _ => ?_)
    refine xs_iload_n d112_13 rfl ?_
    refine xs_bipush (v := -2) d112_14 (by decide) ?_
    rcases lk_if hf with ⟨hc2, hf⟩ | ⟨hc2, hf⟩
    · refine xs_icmp_lt (tgt := 25) d112_16 (by decide) (fun _ => ?_) (fun hn => absurd hc2 hn)
      refine xs_bipush (v := -3) d112_25 (by decide) ?_
      obtain ⟨eR, eH⟩ := K0 _ _ (Option.some.inj hf).symm
      subst eR; subst eH
      exact xs_iret d112_27 rt112
    · refine xs_icmp_lt (tgt := 25) d112_16 (by decide) (fun hp => absurd hp hc2) (fun _ => ?_)
      refine xs_iload_n d112_19 rfl ?_
      refine xs_bipush (v := 8) d112_20 (by decide) ?_
      rcases lk_if hf with ⟨hc3, hf⟩ | ⟨hc3, hf⟩
      · refine xs_icmp_lt (tgt := 28) d112_22 (by decide) (fun _ => ?_) (fun hn => absurd hc3 hn)
        refine xs_aload_n d112_28 rfl ?_
        refine xe_getc (j := 0) d112_29 ky112 fl158 fk11_11 rfl ?_
        refine xs_aload_n d112_32 rfl ?_
        refine xe_getc (j := 0) d112_33 ky112 fl153 fk11_6 rfl ?_
        refine xe_getc (j := 0) d112_36 ky112 fl96 fk4_0 rfl ?_
        refine xs_aload_n d112_39 rfl ?_
        refine xe_getc (j := 0) d112_40 ky112 fl153 fk11_6 rfl ?_
        refine xe_getc (j := 0) d112_43 ky112 fl98 fk4_1 rfl ?_
        obtain ⟨h6, hc5, hf⟩ := lk_b hf
        refine xe_callv0 (as := [xr 8 (some 0), xr 6 (some 0)]) (st := []) (h2 := h6) (d2 := d - 1) d112_46 ky112 ml114 st30 (by decide) cn30 rfl na30 (Nat.le_of_ble_eq_true rfl) (by omega) (f_Sets_findRow_ok (by omega) hc5) ?_
        refine xs_iload_n d112_49 rfl ?_
        refine xs_iconst (v := -1) d112_50 (by decide) ?_
        rcases lk_if hf with ⟨hc7, hf⟩ | ⟨hc7, hf⟩
        · refine xs_icmp_ne (tgt := 62) d112_51 (by decide) (fun _ => ?_) (fun hn => absurd hc7 hn)
          refine xs_aload_n d112_54 rfl ?_
          refine xe_getc (j := 0) d112_55 ky112 fl158 fk11_11 rfl ?_
          refine xe_geti d112_58 ky112 fl123 fk5_2 ?_
          obtain ⟨eR, eH⟩ := K0 _ _ (Option.some.inj hf).symm
          subst eR; subst eH
          exact xs_iret d112_61 rt112
        · refine xs_icmp_ne (tgt := 62) d112_51 (by decide) (fun hp => absurd hp hc7) (fun _ => ?_)
          refine xs_iload_n d112_62 rfl ?_
          refine xs_bipush (v := -2) d112_63 (by decide) ?_
          rcases lk_if hf with ⟨hc8, hf⟩ | ⟨hc8, hf⟩
          · refine xs_icmp_ne (tgt := 76) d112_65 (by decide) (fun _ => ?_) (fun hn => absurd hc8 hn)
            refine xs_aload_n d112_68 rfl ?_
            refine xe_getc (j := 0) d112_69 ky112 fl158 fk11_11 rfl ?_
            refine xe_geti d112_72 ky112 fl125 fk5_3 ?_
            obtain ⟨eR, eH⟩ := K0 _ _ (Option.some.inj hf).symm
            subst eR; subst eH
            exact xs_iret d112_75 rt112
          · refine xs_icmp_ne (tgt := 76) d112_65 (by decide) (fun hp => absurd hp hc8) (fun _ => ?_)
            refine xs_iload_n d112_76 rfl ?_
            refine xs_aload_n d112_77 rfl ?_
            refine xe_getc (j := 0) d112_78 ky112 fl158 fk11_11 rfl ?_
            refine xe_geti d112_81 ky112 fl121 fk5_1 ?_
            rcases lk_if hf with ⟨hc9, hf⟩ | ⟨hc9, hf⟩
            · refine xs_icmp_ge (tgt := 99) d112_84 (by decide) (fun _ => ?_) (fun hn => absurd hc9 hn)
              refine xs_bipush (v := -2) d112_99 (by decide) ?_
              obtain ⟨eR, eH⟩ := K0 _ _ (Option.some.inj hf).symm
              subst eR; subst eH
              exact xs_iret d112_101 rt112
            · refine xs_icmp_ge (tgt := 99) d112_84 (by decide) (fun hp => absurd hp hc9) (fun _ => ?_)
              refine xs_aload_n d112_87 rfl ?_
              refine xe_getc (j := 0) d112_88 ky112 fl158 fk11_11 rfl ?_
              refine xe_getc (j := 0) d112_91 ky112 fl119 fk5_0 rfl ?_
              refine xs_iload_n d112_94 rfl ?_
              obtain ⟨hin10, hf⟩ := lk_g hf
              refine xe_iald d112_95 (by decide) ak22 hin10 ?_
              refine xs_goto (tgt := 101) d112_96 (by decide) ?_
              obtain ⟨eR, eH⟩ := K0 _ _ (Option.some.inj hf).symm
              subst eR; subst eH
              exact xs_iret d112_101 rt112
      · refine xs_icmp_lt (tgt := 28) d112_22 (by decide) (fun hp => absurd hp hc3) (fun _ => ?_)
        refine xs_bipush (v := -3) d112_25 (by decide) ?_
        obtain ⟨eR, eH⟩ := K0 _ _ (Option.some.inj hf).symm
        subst eR; subst eH
        exact xs_iret d112_27 rt112
noncomputable def f_B_order (v1 : Int32) (h : xH) : Option (Int32 × xH) := f_B_order_e v1 h
theorem f_B_order_ok {g : xG} {l : Launch} {d : Nat} {v1 : Int32} {h : xH} {r : Int32} {h1 : xH} (hD : 4 ≤ d) (hf : f_B_order v1 h = some (r, h1)) : xC g l d 112 [xr 11 (some 0), xi v1] h (some (xi r)) h1 :=
  xC_of (by decide) (Nat.le_of_ble_eq_true rfl) (f_B_order_e_ok hD hf (fun _ _ e => by cases e; exact ⟨rfl, rfl⟩))
theorem d113_0 : decode (xcode 113) 0 = .ok (.aload_n 0, 1) := by decide +kernel
theorem d113_1 : decode (xcode 113) 1 = .ok (.getfield 55, 3) := by decide +kernel
theorem d113_4 : decode (xcode 113) 4 = .ok (.getfield 114, 3) := by decide +kernel
theorem d113_7 : decode (xcode 113) 7 = .ok (.getfield 173, 3) := by decide +kernel
theorem d113_10 : decode (xcode 113) 10 = .ok (.ifCond .eq 12, 3) := by decide +kernel
theorem d113_13 : decode (xcode 113) 13 = .ok (.iload_n 1, 1) := by decide +kernel
theorem d113_14 : decode (xcode 113) 14 = .ok (.ifCond .lt 8, 3) := by decide +kernel
theorem d113_17 : decode (xcode 113) 17 = .ok (.iload_n 1, 1) := by decide +kernel
theorem d113_18 : decode (xcode 113) 18 = .ok (.iconst 1, 1) := by decide +kernel
theorem d113_19 : decode (xcode 113) 19 = .ok (.if_icmp .le 5, 3) := by decide +kernel
theorem d113_22 : decode (xcode 113) 22 = .ok (.iconst (-1), 1) := by decide +kernel
theorem d113_23 : decode (xcode 113) 23 = .ok (.ireturn, 1) := by decide +kernel
theorem d113_24 : decode (xcode 113) 24 = .ok (.aload_n 0, 1) := by decide +kernel
theorem d113_25 : decode (xcode 113) 25 = .ok (.getfield 84, 3) := by decide +kernel
theorem d113_28 : decode (xcode 113) 28 = .ok (.aload_n 0, 1) := by decide +kernel
theorem d113_29 : decode (xcode 113) 29 = .ok (.getfield 55, 3) := by decide +kernel
theorem d113_32 : decode (xcode 113) 32 = .ok (.getfield 121, 3) := by decide +kernel
theorem d113_35 : decode (xcode 113) 35 = .ok (.invokevirtual 267, 3) := by decide +kernel
theorem d113_38 : decode (xcode 113) 38 = .ok (.iload_n 1, 1) := by decide +kernel
theorem d113_39 : decode (xcode 113) 39 = .ok (.ifCond .ne 13, 3) := by decide +kernel
theorem d113_42 : decode (xcode 113) 42 = .ok (.aload_n 0, 1) := by decide +kernel
theorem d113_43 : decode (xcode 113) 43 = .ok (.getfield 84, 3) := by decide +kernel
theorem d113_46 : decode (xcode 113) 46 = .ok (.getfield 270, 3) := by decide +kernel
theorem d113_49 : decode (xcode 113) 49 = .ok (.goto 10, 3) := by decide +kernel
theorem d113_52 : decode (xcode 113) 52 = .ok (.aload_n 0, 1) := by decide +kernel
theorem d113_53 : decode (xcode 113) 53 = .ok (.getfield 84, 3) := by decide +kernel
theorem d113_56 : decode (xcode 113) 56 = .ok (.getfield 273, 3) := by decide +kernel
theorem d113_59 : decode (xcode 113) 59 = .ok (.ireturn, 1) := by decide +kernel
noncomputable def f_B_chain_e (v1 : Int32) (h : xH) : Option (Int32 × xH) :=
  if (h.1 8 0 0) = (0 : Int32) then (
  some (((-1 : Int32), h))) else (
  if v1 < (0 : Int32) then (
  some (((-1 : Int32), h))) else (
  if v1 ≤ (1 : Int32) then (
  (f_Sets_findChain 0 h).bind fun h6 =>
  if v1 = (0 : Int32) then (
  some ((h6.1 5 4 0, h6))) else (
  some ((h6.1 5 5 0, h6)))) else (
  some (((-1 : Int32), h)))))
set_option maxHeartbeats 4000000 in
set_option maxRecDepth 100000 in
theorem f_B_chain_e_ok {g : xG} {l : Launch} {d : Nat} {v1 : Int32} {h : xH} {o : (Int32 × xH)} {R : Option xV} {H' : xH} (hD : 4 ≤ d) (hf : f_B_chain_e v1 h = some o) (K0 : ∀ (a : Int32) (h1 : xH), o = (a, h1) → R = some (xi a) ∧ H' = h1) : xEv g l d 113 0 [(0, xr 11 (some 0)), (1, xi v1)] [] h R H' := by
  unfold f_B_chain_e at hf
  refine xs_aload_n d113_0 rfl ?_
  refine xe_getc (j := 0) d113_1 ky113 fl153 fk11_6 rfl ?_
  refine xe_getc (j := 0) d113_4 ky113 fl96 fk4_0 rfl ?_
  refine xe_geti d113_7 ky113 fl19 fk8_0 ?_
  rcases lk_if hf with ⟨hc1, hf⟩ | ⟨hc1, hf⟩
  · refine xs_if_eq (tgt := 22) d113_10 (by decide) (fun _ => ?_) (fun hn => absurd hc1 hn)
    refine xs_iconst (v := -1) d113_22 (by decide) ?_
    obtain ⟨eR, eH⟩ := K0 _ _ (Option.some.inj hf).symm
    subst eR; subst eH
    exact xs_iret d113_23 rt113
  · refine xs_if_eq (tgt := 22) d113_10 (by decide) (fun hp => absurd hp hc1) (fun _ => ?_)
    refine xs_iload_n d113_13 rfl ?_
    rcases lk_if hf with ⟨hc2, hf⟩ | ⟨hc2, hf⟩
    · refine xs_if_lt (tgt := 22) d113_14 (by decide) (fun _ => ?_) (fun hn => absurd hc2 hn)
      refine xs_iconst (v := -1) d113_22 (by decide) ?_
      obtain ⟨eR, eH⟩ := K0 _ _ (Option.some.inj hf).symm
      subst eR; subst eH
      exact xs_iret d113_23 rt113
    · refine xs_if_lt (tgt := 22) d113_14 (by decide) (fun hp => absurd hp hc2) (fun _ => ?_)
      refine xs_iload_n d113_17 rfl ?_
      refine xs_iconst (v := 1) d113_18 (by decide) ?_
      rcases lk_if hf with ⟨hc3, hf⟩ | ⟨hc3, hf⟩
      · refine xs_icmp_le (tgt := 24) d113_19 (by decide) (fun _ => ?_) (fun hn => absurd hc3 hn)
        refine xs_aload_n d113_24 rfl ?_
        refine xe_getc (j := 0) d113_25 ky113 fl158 fk11_11 rfl ?_
        refine xs_aload_n d113_28 rfl ?_
        refine xe_getc (j := 0) d113_29 ky113 fl153 fk11_6 rfl ?_
        refine xe_getc (j := 0) d113_32 ky113 fl98 fk4_1 rfl ?_
        obtain ⟨h6, hc5, hf⟩ := lk_b hf
        refine xe_callv0 (as := [xr 6 (some 0)]) (st := []) (h2 := h6) (d2 := d - 1) d113_35 ky113 ml126 st37 (by decide) cn37 rfl na37 (Nat.le_of_ble_eq_true rfl) (by omega) (f_Sets_findChain_ok (by omega) hc5) ?_
        refine xs_iload_n d113_38 rfl ?_
        rcases lk_if hf with ⟨hc7, hf⟩ | ⟨hc7, hf⟩
        · refine xs_if_ne (tgt := 52) d113_39 (by decide) (fun _ => ?_) (fun hn => absurd hc7 hn)
          refine xs_aload_n d113_42 rfl ?_
          refine xe_getc (j := 0) d113_43 ky113 fl158 fk11_11 rfl ?_
          refine xe_geti d113_46 ky113 fl127 fk5_4 ?_
          refine xs_goto (tgt := 59) d113_49 (by decide) ?_
          obtain ⟨eR, eH⟩ := K0 _ _ (Option.some.inj hf).symm
          subst eR; subst eH
          exact xs_iret d113_59 rt113
        · refine xs_if_ne (tgt := 52) d113_39 (by decide) (fun hp => absurd hp hc7) (fun _ => ?_)
          refine xs_aload_n d113_52 rfl ?_
          refine xe_getc (j := 0) d113_53 ky113 fl158 fk11_11 rfl ?_
          refine xe_geti d113_56 ky113 fl129 fk5_5 ?_
          obtain ⟨eR, eH⟩ := K0 _ _ (Option.some.inj hf).symm
          subst eR; subst eH
          exact xs_iret d113_59 rt113
      · refine xs_icmp_le (tgt := 24) d113_19 (by decide) (fun hp => absurd hp hc3) (fun _ => ?_)
        refine xs_iconst (v := -1) d113_22 (by decide) ?_
        obtain ⟨eR, eH⟩ := K0 _ _ (Option.some.inj hf).symm
        subst eR; subst eH
        exact xs_iret d113_23 rt113
noncomputable def f_B_chain (v1 : Int32) (h : xH) : Option (Int32 × xH) := f_B_chain_e v1 h
theorem f_B_chain_ok {g : xG} {l : Launch} {d : Nat} {v1 : Int32} {h : xH} {r : Int32} {h1 : xH} (hD : 4 ≤ d) (hf : f_B_chain v1 h = some (r, h1)) : xC g l d 113 [xr 11 (some 0), xi v1] h (some (xi r)) h1 :=
  xC_of (by decide) (Nat.le_of_ble_eq_true rfl) (f_B_chain_e_ok hD hf (fun _ _ e => by cases e; exact ⟨rfl, rfl⟩))
theorem d114_0 : decode (xcode 114) 0 = .ok (.aload_n 0, 1) := by decide +kernel
theorem d114_1 : decode (xcode 114) 1 = .ok (.getfield 55, 3) := by decide +kernel
theorem d114_4 : decode (xcode 114) 4 = .ok (.getfield 114, 3) := by decide +kernel
theorem d114_7 : decode (xcode 114) 7 = .ok (.getfield 173, 3) := by decide +kernel
theorem d114_10 : decode (xcode 114) 10 = .ok (.ifCond .ne 5, 3) := by decide +kernel
theorem d114_13 : decode (xcode 114) 13 = .ok (.iconst (-1), 1) := by decide +kernel
theorem d114_14 : decode (xcode 114) 14 = .ok (.ireturn, 1) := by decide +kernel
theorem d114_15 : decode (xcode 114) 15 = .ok (.aload_n 0, 1) := by decide +kernel
theorem d114_16 : decode (xcode 114) 16 = .ok (.getfield 84, 3) := by decide +kernel
theorem d114_19 : decode (xcode 114) 19 = .ok (.aload_n 0, 1) := by decide +kernel
theorem d114_20 : decode (xcode 114) 20 = .ok (.getfield 55, 3) := by decide +kernel
theorem d114_23 : decode (xcode 114) 23 = .ok (.getfield 121, 3) := by decide +kernel
theorem d114_26 : decode (xcode 114) 26 = .ok (.getfield 230, 3) := by decide +kernel
theorem d114_29 : decode (xcode 114) 29 = .ok (.aload_n 0, 1) := by decide +kernel
theorem d114_30 : decode (xcode 114) 30 = .ok (.getfield 55, 3) := by decide +kernel
theorem d114_33 : decode (xcode 114) 33 = .ok (.getfield 121, 3) := by decide +kernel
theorem d114_36 : decode (xcode 114) 36 = .ok (.getfield 164, 3) := by decide +kernel
theorem d114_39 : decode (xcode 114) 39 = .ok (.invokevirtual 276, 3) := by decide +kernel
theorem d114_42 : decode (xcode 114) 42 = .ok (.ireturn, 1) := by decide +kernel
noncomputable def f_B_rings_e (h : xH) : Option (Int32 × xH) :=
  if (h.1 8 0 0) = (0 : Int32) then (
  some (((-1 : Int32), h))) else (
  (f_Sets_ringsAmong_30 (h.1 6 2 0) 0 h).bind fun q4 =>
  some ((q4.1, q4.2)))
set_option maxHeartbeats 4000000 in
set_option maxRecDepth 100000 in
theorem f_B_rings_e_ok {g : xG} {l : Launch} {d : Nat} {h : xH} {o : (Int32 × xH)} {R : Option xV} {H' : xH} (hD : 2 ≤ d) (hf : f_B_rings_e h = some o) (K0 : ∀ (a : Int32) (h1 : xH), o = (a, h1) → R = some (xi a) ∧ H' = h1) : xEv g l d 114 0 [(0, xr 11 (some 0))] [] h R H' := by
  unfold f_B_rings_e at hf
  refine xs_aload_n d114_0 rfl ?_
  refine xe_getc (j := 0) d114_1 ky114 fl153 fk11_6 rfl ?_
  refine xe_getc (j := 0) d114_4 ky114 fl96 fk4_0 rfl ?_
  refine xe_geti d114_7 ky114 fl19 fk8_0 ?_
  rcases lk_if hf with ⟨hc1, hf⟩ | ⟨hc1, hf⟩
  · refine xs_if_ne (tgt := 15) d114_10 (by decide) (fun _ => ?_) (fun hn => absurd hc1 hn)
    refine xs_iconst (v := -1) d114_13 (by decide) ?_
    obtain ⟨eR, eH⟩ := K0 _ _ (Option.some.inj hf).symm
    subst eR; subst eH
    exact xs_iret d114_14 rt114
  · refine xs_if_ne (tgt := 15) d114_10 (by decide) (fun hp => absurd hp hc1) (fun _ => ?_)
    refine xs_aload_n d114_15 rfl ?_
    refine xe_getc (j := 0) d114_16 ky114 fl158 fk11_11 rfl ?_
    refine xs_aload_n d114_19 rfl ?_
    refine xe_getc (j := 0) d114_20 ky114 fl153 fk11_6 rfl ?_
    refine xe_getc (j := 0) d114_23 ky114 fl98 fk4_1 rfl ?_
    refine xe_geti d114_26 ky114 fl78 fk6_2 ?_
    refine xs_aload_n d114_29 rfl ?_
    refine xe_getc (j := 0) d114_30 ky114 fl153 fk11_6 rfl ?_
    refine xe_getc (j := 0) d114_33 ky114 fl98 fk4_1 rfl ?_
    refine xe_getc (j := 0) d114_36 ky114 fl86 fk6_5 rfl ?_
    obtain ⟨q4, hc3, hf⟩ := lk_b hf
    refine xe_callv1 (as := [xi (h.1 6 2 0), xr 30 (some 0)]) (st := []) (h2 := q4.2) (d2 := d - 1) d114_39 ky114 ml131 st41 (by decide) cn41 rfl na41 (Nat.le_of_ble_eq_true rfl) (by omega) (f_Sets_ringsAmong_30_ok (by omega) hc3) ?_
    obtain ⟨eR, eH⟩ := K0 _ _ (Option.some.inj hf).symm
    subst eR; subst eH
    exact xs_iret d114_42 rt114
noncomputable def f_B_rings (h : xH) : Option (Int32 × xH) := f_B_rings_e h
theorem f_B_rings_ok {g : xG} {l : Launch} {d : Nat} {h : xH} {r : Int32} {h1 : xH} (hD : 2 ≤ d) (hf : f_B_rings h = some (r, h1)) : xC g l d 114 [xr 11 (some 0)] h (some (xi r)) h1 :=
  xC_of (by decide) (Nat.le_of_ble_eq_true rfl) (f_B_rings_e_ok hD hf (fun _ _ e => by cases e; exact ⟨rfl, rfl⟩))
theorem d115_0 : decode (xcode 115) 0 = .ok (.aload_n 0, 1) := by decide +kernel
theorem d115_1 : decode (xcode 115) 1 = .ok (.getfield 55, 3) := by decide +kernel
theorem d115_4 : decode (xcode 115) 4 = .ok (.getfield 114, 3) := by decide +kernel
theorem d115_7 : decode (xcode 115) 7 = .ok (.getfield 173, 3) := by decide +kernel
theorem d115_10 : decode (xcode 115) 10 = .ok (.ifCond .eq 12, 3) := by decide +kernel
theorem d115_13 : decode (xcode 115) 13 = .ok (.iload_n 1, 1) := by decide +kernel
theorem d115_14 : decode (xcode 115) 14 = .ok (.ifCond .lt 8, 3) := by decide +kernel
theorem d115_17 : decode (xcode 115) 17 = .ok (.iload_n 1, 1) := by decide +kernel
theorem d115_18 : decode (xcode 115) 18 = .ok (.iconst 1, 1) := by decide +kernel
theorem d115_19 : decode (xcode 115) 19 = .ok (.if_icmp .le 5, 3) := by decide +kernel
theorem d115_22 : decode (xcode 115) 22 = .ok (.iconst (-1), 1) := by decide +kernel
theorem d115_23 : decode (xcode 115) 23 = .ok (.ireturn, 1) := by decide +kernel
theorem d115_24 : decode (xcode 115) 24 = .ok (.aload_n 0, 1) := by decide +kernel
theorem d115_25 : decode (xcode 115) 25 = .ok (.getfield 84, 3) := by decide +kernel
theorem d115_28 : decode (xcode 115) 28 = .ok (.aload_n 0, 1) := by decide +kernel
theorem d115_29 : decode (xcode 115) 29 = .ok (.getfield 55, 3) := by decide +kernel
theorem d115_32 : decode (xcode 115) 32 = .ok (.getfield 121, 3) := by decide +kernel
theorem d115_35 : decode (xcode 115) 35 = .ok (.invokevirtual 280, 3) := by decide +kernel
theorem d115_38 : decode (xcode 115) 38 = .ok (.istore_n 2, 1) := by decide +kernel
theorem d115_39 : decode (xcode 115) 39 = .ok (.iload_n 1, 1) := by decide +kernel
theorem d115_40 : decode (xcode 115) 40 = .ok (.ifCond .ne 10, 3) := by decide +kernel
theorem d115_43 : decode (xcode 115) 43 = .ok (.iload_n 2, 1) := by decide +kernel
theorem d115_44 : decode (xcode 115) 44 = .ok (.invokestatic 233, 3) := by decide +kernel
theorem d115_47 : decode (xcode 115) 47 = .ok (.goto 4, 3) := by decide +kernel
theorem d115_50 : decode (xcode 115) 50 = .ok (.iload_n 2, 1) := by decide +kernel
theorem d115_51 : decode (xcode 115) 51 = .ok (.ireturn, 1) := by decide +kernel
noncomputable def f_B_taken_e (v1 : Int32) (h : xH) : Option (Int32 × xH) :=
  if (h.1 8 0 0) = (0 : Int32) then (
  some (((-1 : Int32), h))) else (
  if v1 < (0 : Int32) then (
  some (((-1 : Int32), h))) else (
  if v1 ≤ (1 : Int32) then (
  (f_Sets_fewestForNoRings 0 h).bind fun q6 =>
  if v1 = (0 : Int32) then (
  (f_Integer_bitCount q6.1 q6.2).bind fun r8 =>
  some ((r8, q6.2))) else (
  some ((q6.1, q6.2)))) else (
  some (((-1 : Int32), h)))))
set_option maxHeartbeats 4000000 in
set_option maxRecDepth 100000 in
theorem f_B_taken_e_ok {g : xG} {l : Launch} {d : Nat} {v1 : Int32} {h : xH} {o : (Int32 × xH)} {R : Option xV} {H' : xH} (hD : 3 ≤ d) (hf : f_B_taken_e v1 h = some o) (K0 : ∀ (a : Int32) (h1 : xH), o = (a, h1) → R = some (xi a) ∧ H' = h1) : xEv g l d 115 0 [(0, xr 11 (some 0)), (1, xi v1)] [] h R H' := by
  unfold f_B_taken_e at hf
  refine xs_aload_n d115_0 rfl ?_
  refine xe_getc (j := 0) d115_1 ky115 fl153 fk11_6 rfl ?_
  refine xe_getc (j := 0) d115_4 ky115 fl96 fk4_0 rfl ?_
  refine xe_geti d115_7 ky115 fl19 fk8_0 ?_
  rcases lk_if hf with ⟨hc1, hf⟩ | ⟨hc1, hf⟩
  · refine xs_if_eq (tgt := 22) d115_10 (by decide) (fun _ => ?_) (fun hn => absurd hc1 hn)
    refine xs_iconst (v := -1) d115_22 (by decide) ?_
    obtain ⟨eR, eH⟩ := K0 _ _ (Option.some.inj hf).symm
    subst eR; subst eH
    exact xs_iret d115_23 rt115
  · refine xs_if_eq (tgt := 22) d115_10 (by decide) (fun hp => absurd hp hc1) (fun _ => ?_)
    refine xs_iload_n d115_13 rfl ?_
    rcases lk_if hf with ⟨hc2, hf⟩ | ⟨hc2, hf⟩
    · refine xs_if_lt (tgt := 22) d115_14 (by decide) (fun _ => ?_) (fun hn => absurd hc2 hn)
      refine xs_iconst (v := -1) d115_22 (by decide) ?_
      obtain ⟨eR, eH⟩ := K0 _ _ (Option.some.inj hf).symm
      subst eR; subst eH
      exact xs_iret d115_23 rt115
    · refine xs_if_lt (tgt := 22) d115_14 (by decide) (fun hp => absurd hp hc2) (fun _ => ?_)
      refine xs_iload_n d115_17 rfl ?_
      refine xs_iconst (v := 1) d115_18 (by decide) ?_
      rcases lk_if hf with ⟨hc3, hf⟩ | ⟨hc3, hf⟩
      · refine xs_icmp_le (tgt := 24) d115_19 (by decide) (fun _ => ?_) (fun hn => absurd hc3 hn)
        refine xs_aload_n d115_24 rfl ?_
        refine xe_getc (j := 0) d115_25 ky115 fl158 fk11_11 rfl ?_
        refine xs_aload_n d115_28 rfl ?_
        refine xe_getc (j := 0) d115_29 ky115 fl153 fk11_6 rfl ?_
        refine xe_getc (j := 0) d115_32 ky115 fl98 fk4_1 rfl ?_
        obtain ⟨q6, hc5, hf⟩ := lk_b hf
        refine xe_callv1 (as := [xr 6 (some 0)]) (st := []) (h2 := q6.2) (d2 := d - 1) d115_35 ky115 ml133 st42 (by decide) cn42 rfl na42 (Nat.le_of_ble_eq_true rfl) (by omega) (f_Sets_fewestForNoRings_ok (by omega) hc5) ?_
        refine xe_istore_n (v := q6.1) (ls2 := [(0, xr 11 (some 0)), (1, xi v1), (2, xi q6.1)]) d115_38 mx115 (by decide) rfl rfl ?_
        refine xs_iload_n d115_39 rfl ?_
        rcases lk_if hf with ⟨hc7, hf⟩ | ⟨hc7, hf⟩
        · refine xs_if_ne (tgt := 50) d115_40 (by decide) (fun _ => ?_) (fun hn => absurd hc7 hn)
          refine xs_iload_n d115_43 rfl ?_
          obtain ⟨r8, hc9, hf⟩ := lk_b hf
          refine xe_calls1 (as := [xi q6.1]) (st := []) (h2 := q6.2) (d2 := d - 1) d115_44 ky115 ml105 st255 rfl na255 (Nat.le_of_ble_eq_true rfl) (by omega) (f_Integer_bitCount_ok (by omega) hc9) ?_
          refine xs_goto (tgt := 51) d115_47 (by decide) ?_
          obtain ⟨eR, eH⟩ := K0 _ _ (Option.some.inj hf).symm
          subst eR; subst eH
          exact xs_iret d115_51 rt115
        · refine xs_if_ne (tgt := 50) d115_40 (by decide) (fun hp => absurd hp hc7) (fun _ => ?_)
          refine xs_iload_n d115_50 rfl ?_
          obtain ⟨eR, eH⟩ := K0 _ _ (Option.some.inj hf).symm
          subst eR; subst eH
          exact xs_iret d115_51 rt115
      · refine xs_icmp_le (tgt := 24) d115_19 (by decide) (fun hp => absurd hp hc3) (fun _ => ?_)
        refine xs_iconst (v := -1) d115_22 (by decide) ?_
        obtain ⟨eR, eH⟩ := K0 _ _ (Option.some.inj hf).symm
        subst eR; subst eH
        exact xs_iret d115_23 rt115
noncomputable def f_B_taken (v1 : Int32) (h : xH) : Option (Int32 × xH) := f_B_taken_e v1 h
theorem f_B_taken_ok {g : xG} {l : Launch} {d : Nat} {v1 : Int32} {h : xH} {r : Int32} {h1 : xH} (hD : 3 ≤ d) (hf : f_B_taken v1 h = some (r, h1)) : xC g l d 115 [xr 11 (some 0), xi v1] h (some (xi r)) h1 :=
  xC_of (by decide) (Nat.le_of_ble_eq_true rfl) (f_B_taken_e_ok hD hf (fun _ _ e => by cases e; exact ⟨rfl, rfl⟩))
theorem d116_0 : decode (xcode 116) 0 = .ok (.aload_n 0, 1) := by decide +kernel
theorem d116_1 : decode (xcode 116) 1 = .ok (.getfield 55, 3) := by decide +kernel
theorem d116_4 : decode (xcode 116) 4 = .ok (.getfield 114, 3) := by decide +kernel
theorem d116_7 : decode (xcode 116) 7 = .ok (.getfield 173, 3) := by decide +kernel
theorem d116_10 : decode (xcode 116) 10 = .ok (.ifCond .eq 14, 3) := by decide +kernel
theorem d116_13 : decode (xcode 116) 13 = .ok (.iload_n 1, 1) := by decide +kernel
theorem d116_14 : decode (xcode 116) 14 = .ok (.iconst (-1), 1) := by decide +kernel
theorem d116_15 : decode (xcode 116) 15 = .ok (.if_icmp .lt 9, 3) := by decide +kernel
theorem d116_18 : decode (xcode 116) 18 = .ok (.iload_n 1, 1) := by decide +kernel
theorem d116_19 : decode (xcode 116) 19 = .ok (.bipush 8, 2) := by decide +kernel
theorem d116_21 : decode (xcode 116) 21 = .ok (.if_icmp .lt 6, 3) := by decide +kernel
theorem d116_24 : decode (xcode 116) 24 = .ok (.bipush (-3), 2) := by decide +kernel
theorem d116_26 : decode (xcode 116) 26 = .ok (.ireturn, 1) := by decide +kernel
theorem d116_27 : decode (xcode 116) 27 = .ok (.iload_n 1, 1) := by decide +kernel
theorem d116_28 : decode (xcode 116) 28 = .ok (.iconst (-1), 1) := by decide +kernel
theorem d116_29 : decode (xcode 116) 29 = .ok (.if_icmp .eq 20, 3) := by decide +kernel
theorem d116_32 : decode (xcode 116) 32 = .ok (.aload_n 0, 1) := by decide +kernel
theorem d116_33 : decode (xcode 116) 33 = .ok (.getfield 55, 3) := by decide +kernel
theorem d116_36 : decode (xcode 116) 36 = .ok (.getfield 121, 3) := by decide +kernel
theorem d116_39 : decode (xcode 116) 39 = .ok (.iload_n 1, 1) := by decide +kernel
theorem d116_40 : decode (xcode 116) 40 = .ok (.invokevirtual 209, 3) := by decide +kernel
theorem d116_43 : decode (xcode 116) 43 = .ok (.ifCond .ne 6, 3) := by decide +kernel
theorem d116_46 : decode (xcode 116) 46 = .ok (.bipush (-2), 2) := by decide +kernel
theorem d116_48 : decode (xcode 116) 48 = .ok (.ireturn, 1) := by decide +kernel
theorem d116_49 : decode (xcode 116) 49 = .ok (.aload_n 0, 1) := by decide +kernel
theorem d116_50 : decode (xcode 116) 50 = .ok (.getfield 91, 3) := by decide +kernel
theorem d116_53 : decode (xcode 116) 53 = .ok (.aload_n 0, 1) := by decide +kernel
theorem d116_54 : decode (xcode 116) 54 = .ok (.getfield 55, 3) := by decide +kernel
theorem d116_57 : decode (xcode 116) 57 = .ok (.getfield 114, 3) := by decide +kernel
theorem d116_60 : decode (xcode 116) 60 = .ok (.aload_n 0, 1) := by decide +kernel
theorem d116_61 : decode (xcode 116) 61 = .ok (.getfield 55, 3) := by decide +kernel
theorem d116_64 : decode (xcode 116) 64 = .ok (.getfield 121, 3) := by decide +kernel
theorem d116_67 : decode (xcode 116) 67 = .ok (.invokevirtual 284, 3) := by decide +kernel
theorem d116_70 : decode (xcode 116) 70 = .ok (.iload_n 1, 1) := by decide +kernel
theorem d116_71 : decode (xcode 116) 71 = .ok (.iconst (-1), 1) := by decide +kernel
theorem d116_72 : decode (xcode 116) 72 = .ok (.if_icmp .ne 13, 3) := by decide +kernel
theorem d116_75 : decode (xcode 116) 75 = .ok (.aload_n 0, 1) := by decide +kernel
theorem d116_76 : decode (xcode 116) 76 = .ok (.getfield 91, 3) := by decide +kernel
theorem d116_79 : decode (xcode 116) 79 = .ok (.getfield 287, 3) := by decide +kernel
theorem d116_82 : decode (xcode 116) 82 = .ok (.goto 12, 3) := by decide +kernel
theorem d116_85 : decode (xcode 116) 85 = .ok (.aload_n 0, 1) := by decide +kernel
theorem d116_86 : decode (xcode 116) 86 = .ok (.getfield 91, 3) := by decide +kernel
theorem d116_89 : decode (xcode 116) 89 = .ok (.getfield 290, 3) := by decide +kernel
theorem d116_92 : decode (xcode 116) 92 = .ok (.iload_n 1, 1) := by decide +kernel
theorem d116_93 : decode (xcode 116) 93 = .ok (.iaload, 1) := by decide +kernel
theorem d116_94 : decode (xcode 116) 94 = .ok (.ireturn, 1) := by decide +kernel
noncomputable def f_B_carry_b49 (v1 : Int32) (h : xH) : Option (Int32 × xH) :=
  (f_Bearing_part 0 0 h).bind fun h7 =>
  if v1 = (-1 : Int32) then (
  some ((h7.1 0 0 0, h7))) else (
  if xib v1 8 then (
  some ((h7.2.2.2.1 13 0 (v1).toNatClampNeg, h7))) else none)
set_option maxHeartbeats 4000000 in
set_option maxRecDepth 100000 in
theorem f_B_carry_b49_ok {g : xG} {l : Launch} {d : Nat} {v1 : Int32} {h : xH} {o : (Int32 × xH)} {R : Option xV} {H' : xH} (hD : 4 ≤ d) (hf : f_B_carry_b49 v1 h = some o) (K0 : ∀ (a : Int32) (h1 : xH), o = (a, h1) → R = some (xi a) ∧ H' = h1) : xEv g l d 116 49 [(0, xr 11 (some 0)), (1, xi v1)] [] h R H' := by
  unfold f_B_carry_b49 at hf
  refine xs_aload_n d116_49 rfl ?_
  refine xe_getc (j := 0) d116_50 ky116 fl159 fk11_12 rfl ?_
  refine xs_aload_n d116_53 rfl ?_
  refine xe_getc (j := 0) d116_54 ky116 fl153 fk11_6 rfl ?_
  refine xe_getc (j := 0) d116_57 ky116 fl96 fk4_0 rfl ?_
  refine xs_aload_n d116_60 rfl ?_
  refine xe_getc (j := 0) d116_61 ky116 fl153 fk11_6 rfl ?_
  refine xe_getc (j := 0) d116_64 ky116 fl98 fk4_1 rfl ?_
  obtain ⟨h7, hc6, hf⟩ := lk_b hf
  refine xe_callv0 (as := [xr 8 (some 0), xr 6 (some 0)]) (st := []) (h2 := h7) (d2 := d - 1) d116_67 ky116 ml137 st0 (by decide) cn0 rfl na0 (Nat.le_of_ble_eq_true rfl) (by omega) (f_Bearing_part_ok (by omega) hc6) ?_
  refine xs_iload_n d116_70 rfl ?_
  refine xs_iconst (v := -1) d116_71 (by decide) ?_
  rcases lk_if hf with ⟨hc8, hf⟩ | ⟨hc8, hf⟩
  · refine xs_icmp_ne (tgt := 85) d116_72 (by decide) (fun _ => ?_) (fun hn => absurd hc8 hn)
    refine xs_aload_n d116_75 rfl ?_
    refine xe_getc (j := 0) d116_76 ky116 fl159 fk11_12 rfl ?_
    refine xe_geti d116_79 ky116 fl141 fk0_0 ?_
    refine xs_goto (tgt := 94) d116_82 (by decide) ?_
    obtain ⟨eR, eH⟩ := K0 _ _ (Option.some.inj hf).symm
    subst eR; subst eH
    exact xs_iret d116_94 rt116
  · refine xs_icmp_ne (tgt := 85) d116_72 (by decide) (fun hp => absurd hp hc8) (fun _ => ?_)
    refine xs_aload_n d116_85 rfl ?_
    refine xe_getc (j := 0) d116_86 ky116 fl159 fk11_12 rfl ?_
    refine xe_getc (j := 0) d116_89 ky116 fl143 fk0_1 rfl ?_
    refine xs_iload_n d116_92 rfl ?_
    obtain ⟨hin9, hf⟩ := lk_g hf
    refine xe_iald d116_93 (by decide) ak13 hin9 ?_
    obtain ⟨eR, eH⟩ := K0 _ _ (Option.some.inj hf).symm
    subst eR; subst eH
    exact xs_iret d116_94 rt116
noncomputable def f_B_carry_e (v1 : Int32) (h : xH) : Option (Int32 × xH) :=
  if (h.1 8 0 0) = (0 : Int32) then (
  some (((-3 : Int32), h))) else (
  if v1 < (-1 : Int32) then (
  some (((-3 : Int32), h))) else (
  if v1 < (8 : Int32) then (
  if v1 = (-1 : Int32) then (
  f_B_carry_b49 v1 h) else (
  (f_State_isIn 0 v1 h).bind fun r10 =>
  if r10 = (0 : Int32) then (
  some (((-2 : Int32), h))) else (
  f_B_carry_b49 v1 h))) else (
  some (((-3 : Int32), h)))))
set_option maxHeartbeats 4000000 in
set_option maxRecDepth 100000 in
theorem f_B_carry_e_ok {g : xG} {l : Launch} {d : Nat} {v1 : Int32} {h : xH} {o : (Int32 × xH)} {R : Option xV} {H' : xH} (hD : 4 ≤ d) (hf : f_B_carry_e v1 h = some o) (K0 : ∀ (a : Int32) (h1 : xH), o = (a, h1) → R = some (xi a) ∧ H' = h1) : xEv g l d 116 0 [(0, xr 11 (some 0)), (1, xi v1)] [] h R H' := by
  unfold f_B_carry_e at hf
  refine xs_aload_n d116_0 rfl ?_
  refine xe_getc (j := 0) d116_1 ky116 fl153 fk11_6 rfl ?_
  refine xe_getc (j := 0) d116_4 ky116 fl96 fk4_0 rfl ?_
  refine xe_geti d116_7 ky116 fl19 fk8_0 ?_
  rcases lk_if hf with ⟨hc1, hf⟩ | ⟨hc1, hf⟩
  · refine xs_if_eq (tgt := 24) d116_10 (by decide) (fun _ => ?_) (fun hn => absurd hc1 hn)
    refine xs_bipush (v := -3) d116_24 (by decide) ?_
    obtain ⟨eR, eH⟩ := K0 _ _ (Option.some.inj hf).symm
    subst eR; subst eH
    exact xs_iret d116_26 rt116
  · refine xs_if_eq (tgt := 24) d116_10 (by decide) (fun hp => absurd hp hc1) (fun _ => ?_)
    refine xs_iload_n d116_13 rfl ?_
    refine xs_iconst (v := -1) d116_14 (by decide) ?_
    rcases lk_if hf with ⟨hc2, hf⟩ | ⟨hc2, hf⟩
    · refine xs_icmp_lt (tgt := 24) d116_15 (by decide) (fun _ => ?_) (fun hn => absurd hc2 hn)
      refine xs_bipush (v := -3) d116_24 (by decide) ?_
      obtain ⟨eR, eH⟩ := K0 _ _ (Option.some.inj hf).symm
      subst eR; subst eH
      exact xs_iret d116_26 rt116
    · refine xs_icmp_lt (tgt := 24) d116_15 (by decide) (fun hp => absurd hp hc2) (fun _ => ?_)
      refine xs_iload_n d116_18 rfl ?_
      refine xs_bipush (v := 8) d116_19 (by decide) ?_
      rcases lk_if hf with ⟨hc3, hf⟩ | ⟨hc3, hf⟩
      · refine xs_icmp_lt (tgt := 27) d116_21 (by decide) (fun _ => ?_) (fun hn => absurd hc3 hn)
        refine xs_iload_n d116_27 rfl ?_
        refine xs_iconst (v := -1) d116_28 (by decide) ?_
        rcases lk_if hf with ⟨hc4, hf⟩ | ⟨hc4, hf⟩
        · refine xs_icmp_eq (tgt := 49) d116_29 (by decide) (fun _ => ?_) (fun hn => absurd hc4 hn)
          exact f_B_carry_b49_ok hD hf K0
        · refine xs_icmp_eq (tgt := 49) d116_29 (by decide) (fun hp => absurd hp hc4) (fun _ => ?_)
          refine xs_aload_n d116_32 rfl ?_
          refine xe_getc (j := 0) d116_33 ky116 fl153 fk11_6 rfl ?_
          refine xe_getc (j := 0) d116_36 ky116 fl98 fk4_1 rfl ?_
          refine xs_iload_n d116_39 rfl ?_
          obtain ⟨r10, hc11, hf⟩ := lk_b hf
          refine xe_callv1 (as := [xi v1]) (st := []) (h2 := h) (d2 := d - 1) d116_40 ky116 ml98 st47 (by decide) cn47 rfl na47 (Nat.le_of_ble_eq_true rfl) (by omega) (f_State_isIn_ok (by omega) hc11) ?_
          rcases lk_if hf with ⟨hc12, hf⟩ | ⟨hc12, hf⟩
          · refine xs_if_ne (tgt := 49) d116_43 (by decide) (fun _ => ?_) (fun hn => absurd hc12 hn)
            refine xs_bipush (v := -2) d116_46 (by decide) ?_
            obtain ⟨eR, eH⟩ := K0 _ _ (Option.some.inj hf).symm
            subst eR; subst eH
            exact xs_iret d116_48 rt116
          · refine xs_if_ne (tgt := 49) d116_43 (by decide) (fun hp => absurd hp hc12) (fun _ => ?_)
            exact f_B_carry_b49_ok hD hf K0
      · refine xs_icmp_lt (tgt := 27) d116_21 (by decide) (fun hp => absurd hp hc3) (fun _ => ?_)
        refine xs_bipush (v := -3) d116_24 (by decide) ?_
        obtain ⟨eR, eH⟩ := K0 _ _ (Option.some.inj hf).symm
        subst eR; subst eH
        exact xs_iret d116_26 rt116
noncomputable def f_B_carry (v1 : Int32) (h : xH) : Option (Int32 × xH) := f_B_carry_e v1 h
theorem f_B_carry_ok {g : xG} {l : Launch} {d : Nat} {v1 : Int32} {h : xH} {r : Int32} {h1 : xH} (hD : 4 ≤ d) (hf : f_B_carry v1 h = some (r, h1)) : xC g l d 116 [xr 11 (some 0), xi v1] h (some (xi r)) h1 :=
  xC_of (by decide) (Nat.le_of_ble_eq_true rfl) (f_B_carry_e_ok hD hf (fun _ _ e => by cases e; exact ⟨rfl, rfl⟩))
theorem d117_0 : decode (xcode 117) 0 = .ok (.aload_n 0, 1) := by decide +kernel
theorem d117_1 : decode (xcode 117) 1 = .ok (.getfield 55, 3) := by decide +kernel
theorem d117_4 : decode (xcode 117) 4 = .ok (.getfield 114, 3) := by decide +kernel
theorem d117_7 : decode (xcode 117) 7 = .ok (.getfield 173, 3) := by decide +kernel
theorem d117_10 : decode (xcode 117) 10 = .ok (.ifCond .eq 12, 3) := by decide +kernel
theorem d117_13 : decode (xcode 117) 13 = .ok (.iload_n 1, 1) := by decide +kernel
theorem d117_14 : decode (xcode 117) 14 = .ok (.ifCond .lt 8, 3) := by decide +kernel
theorem d117_17 : decode (xcode 117) 17 = .ok (.iload_n 1, 1) := by decide +kernel
theorem d117_18 : decode (xcode 117) 18 = .ok (.iconst 1, 1) := by decide +kernel
theorem d117_19 : decode (xcode 117) 19 = .ok (.if_icmp .le 5, 3) := by decide +kernel
theorem d117_22 : decode (xcode 117) 22 = .ok (.iconst (-1), 1) := by decide +kernel
theorem d117_23 : decode (xcode 117) 23 = .ok (.ireturn, 1) := by decide +kernel
theorem d117_24 : decode (xcode 117) 24 = .ok (.aload_n 0, 1) := by decide +kernel
theorem d117_25 : decode (xcode 117) 25 = .ok (.getfield 91, 3) := by decide +kernel
theorem d117_28 : decode (xcode 117) 28 = .ok (.aload_n 0, 1) := by decide +kernel
theorem d117_29 : decode (xcode 117) 29 = .ok (.getfield 55, 3) := by decide +kernel
theorem d117_32 : decode (xcode 117) 32 = .ok (.getfield 121, 3) := by decide +kernel
theorem d117_35 : decode (xcode 117) 35 = .ok (.aload_n 0, 1) := by decide +kernel
theorem d117_36 : decode (xcode 117) 36 = .ok (.getfield 55, 3) := by decide +kernel
theorem d117_39 : decode (xcode 117) 39 = .ok (.getfield 114, 3) := by decide +kernel
theorem d117_42 : decode (xcode 117) 42 = .ok (.getfield 224, 3) := by decide +kernel
theorem d117_45 : decode (xcode 117) 45 = .ok (.invokevirtual 227, 3) := by decide +kernel
theorem d117_48 : decode (xcode 117) 48 = .ok (.aload_n 0, 1) := by decide +kernel
theorem d117_49 : decode (xcode 117) 49 = .ok (.getfield 55, 3) := by decide +kernel
theorem d117_52 : decode (xcode 117) 52 = .ok (.getfield 114, 3) := by decide +kernel
theorem d117_55 : decode (xcode 117) 55 = .ok (.invokevirtual 293, 3) := by decide +kernel
theorem d117_58 : decode (xcode 117) 58 = .ok (.istore_n 2, 1) := by decide +kernel
theorem d117_59 : decode (xcode 117) 59 = .ok (.iload_n 2, 1) := by decide +kernel
theorem d117_60 : decode (xcode 117) 60 = .ok (.iconst (-1), 1) := by decide +kernel
theorem d117_61 : decode (xcode 117) 61 = .ok (.if_icmp .ne 6, 3) := by decide +kernel
theorem d117_64 : decode (xcode 117) 64 = .ok (.bipush (-2), 2) := by decide +kernel
theorem d117_66 : decode (xcode 117) 66 = .ok (.ireturn, 1) := by decide +kernel
theorem d117_67 : decode (xcode 117) 67 = .ok (.iload_n 1, 1) := by decide +kernel
theorem d117_68 : decode (xcode 117) 68 = .ok (.ifCond .ne 10, 3) := by decide +kernel
theorem d117_71 : decode (xcode 117) 71 = .ok (.iload_n 2, 1) := by decide +kernel
theorem d117_72 : decode (xcode 117) 72 = .ok (.invokestatic 233, 3) := by decide +kernel
theorem d117_75 : decode (xcode 117) 75 = .ok (.goto 4, 3) := by decide +kernel
theorem d117_78 : decode (xcode 117) 78 = .ok (.iload_n 2, 1) := by decide +kernel
theorem d117_79 : decode (xcode 117) 79 = .ok (.ireturn, 1) := by decide +kernel
noncomputable def f_B_pole_e (v1 : Int32) (h : xH) : Option Int32 :=
  if (h.1 8 0 0) = (0 : Int32) then (
  some ((-1 : Int32))) else (
  if v1 < (0 : Int32) then (
  some ((-1 : Int32))) else (
  if v1 ≤ (1 : Int32) then (
  (f_State_load 0 (h.1 8 2 0) h).bind fun r4 =>
  (f_Bearing_fewestFor r4 0 h).bind fun r6 =>
  if r6 = (-1 : Int32) then (
  some ((-2 : Int32))) else (
  if v1 = (0 : Int32) then (
  (f_Integer_bitCount r6 h).bind fun r10 =>
  some (r10)) else (
  some (r6)))) else (
  some ((-1 : Int32)))))
set_option maxHeartbeats 4000000 in
set_option maxRecDepth 100000 in
theorem f_B_pole_e_ok {g : xG} {l : Launch} {d : Nat} {v1 : Int32} {h : xH} {o : Int32} {R : Option xV} (hD : 2 ≤ d) (hf : f_B_pole_e v1 h = some o) (K0 : ∀ (a : Int32), o = a → R = some (xi a)) : xEv g l d 117 0 [(0, xr 11 (some 0)), (1, xi v1)] [] h R h := by
  unfold f_B_pole_e at hf
  refine xs_aload_n d117_0 rfl ?_
  refine xe_getc (j := 0) d117_1 ky117 fl153 fk11_6 rfl ?_
  refine xe_getc (j := 0) d117_4 ky117 fl96 fk4_0 rfl ?_
  refine xe_geti d117_7 ky117 fl19 fk8_0 ?_
  rcases lk_if hf with ⟨hc1, hf⟩ | ⟨hc1, hf⟩
  · refine xs_if_eq (tgt := 22) d117_10 (by decide) (fun _ => ?_) (fun hn => absurd hc1 hn)
    refine xs_iconst (v := -1) d117_22 (by decide) ?_
    obtain eR := K0 _ (Option.some.inj hf).symm
    subst eR
    exact xs_iret d117_23 rt117
  · refine xs_if_eq (tgt := 22) d117_10 (by decide) (fun hp => absurd hp hc1) (fun _ => ?_)
    refine xs_iload_n d117_13 rfl ?_
    rcases lk_if hf with ⟨hc2, hf⟩ | ⟨hc2, hf⟩
    · refine xs_if_lt (tgt := 22) d117_14 (by decide) (fun _ => ?_) (fun hn => absurd hc2 hn)
      refine xs_iconst (v := -1) d117_22 (by decide) ?_
      obtain eR := K0 _ (Option.some.inj hf).symm
      subst eR
      exact xs_iret d117_23 rt117
    · refine xs_if_lt (tgt := 22) d117_14 (by decide) (fun hp => absurd hp hc2) (fun _ => ?_)
      refine xs_iload_n d117_17 rfl ?_
      refine xs_iconst (v := 1) d117_18 (by decide) ?_
      rcases lk_if hf with ⟨hc3, hf⟩ | ⟨hc3, hf⟩
      · refine xs_icmp_le (tgt := 24) d117_19 (by decide) (fun _ => ?_) (fun hn => absurd hc3 hn)
        refine xs_aload_n d117_24 rfl ?_
        refine xe_getc (j := 0) d117_25 ky117 fl159 fk11_12 rfl ?_
        refine xs_aload_n d117_28 rfl ?_
        refine xe_getc (j := 0) d117_29 ky117 fl153 fk11_6 rfl ?_
        refine xe_getc (j := 0) d117_32 ky117 fl98 fk4_1 rfl ?_
        refine xs_aload_n d117_35 rfl ?_
        refine xe_getc (j := 0) d117_36 ky117 fl153 fk11_6 rfl ?_
        refine xe_getc (j := 0) d117_39 ky117 fl96 fk4_0 rfl ?_
        refine xe_geti d117_42 ky117 fl28 fk8_2 ?_
        obtain ⟨r4, hc5, hf⟩ := lk_b hf
        refine xe_callv1 (as := [xi (h.1 8 2 0)]) (st := [xr 0 (some 0)]) (h2 := h) (d2 := d - 1) d117_45 ky117 ml104 st52 (by decide) cn52 rfl na52 (Nat.le_of_ble_eq_true rfl) (by omega) (f_State_load_ok (by omega) hc5) ?_
        refine xs_aload_n d117_48 rfl ?_
        refine xe_getc (j := 0) d117_49 ky117 fl153 fk11_6 rfl ?_
        refine xe_getc (j := 0) d117_52 ky117 fl96 fk4_0 rfl ?_
        obtain ⟨r6, hc7, hf⟩ := lk_b hf
        refine xe_callv1 (as := [xi r4, xr 8 (some 0)]) (st := []) (h2 := h) (d2 := d - 1) d117_55 ky117 ml145 st4 (by decide) cn4 rfl na4 (Nat.le_of_ble_eq_true rfl) (by omega) (f_Bearing_fewestFor_ok (by omega) hc7) ?_
        refine xe_istore_n (v := r6) (ls2 := [(0, xr 11 (some 0)), (1, xi v1), (2, xi r6)]) d117_58 mx117 (by decide) rfl rfl ?_
        refine xs_iload_n d117_59 rfl ?_
        refine xs_iconst (v := -1) d117_60 (by decide) ?_
        rcases lk_if hf with ⟨hc8, hf⟩ | ⟨hc8, hf⟩
        · refine xs_icmp_ne (tgt := 67) d117_61 (by decide) (fun _ => ?_) (fun hn => absurd hc8 hn)
          refine xs_bipush (v := -2) d117_64 (by decide) ?_
          obtain eR := K0 _ (Option.some.inj hf).symm
          subst eR
          exact xs_iret d117_66 rt117
        · refine xs_icmp_ne (tgt := 67) d117_61 (by decide) (fun hp => absurd hp hc8) (fun _ => ?_)
          refine xs_iload_n d117_67 rfl ?_
          rcases lk_if hf with ⟨hc9, hf⟩ | ⟨hc9, hf⟩
          · refine xs_if_ne (tgt := 78) d117_68 (by decide) (fun _ => ?_) (fun hn => absurd hc9 hn)
            refine xs_iload_n d117_71 rfl ?_
            obtain ⟨r10, hc11, hf⟩ := lk_b hf
            refine xe_calls1 (as := [xi r6]) (st := []) (h2 := h) (d2 := d - 1) d117_72 ky117 ml105 st255 rfl na255 (Nat.le_of_ble_eq_true rfl) (by omega) (f_Integer_bitCount_ok (by omega) hc11) ?_
            refine xs_goto (tgt := 79) d117_75 (by decide) ?_
            obtain eR := K0 _ (Option.some.inj hf).symm
            subst eR
            exact xs_iret d117_79 rt117
          · refine xs_if_ne (tgt := 78) d117_68 (by decide) (fun hp => absurd hp hc9) (fun _ => ?_)
            refine xs_iload_n d117_78 rfl ?_
            obtain eR := K0 _ (Option.some.inj hf).symm
            subst eR
            exact xs_iret d117_79 rt117
      · refine xs_icmp_le (tgt := 24) d117_19 (by decide) (fun hp => absurd hp hc3) (fun _ => ?_)
        refine xs_iconst (v := -1) d117_22 (by decide) ?_
        obtain eR := K0 _ (Option.some.inj hf).symm
        subst eR
        exact xs_iret d117_23 rt117
noncomputable def f_B_pole (v1 : Int32) (h : xH) : Option Int32 := f_B_pole_e v1 h
theorem f_B_pole_ok {g : xG} {l : Launch} {d : Nat} {v1 : Int32} {h : xH} {r : Int32} (hD : 2 ≤ d) (hf : f_B_pole v1 h = some r) : xC g l d 117 [xr 11 (some 0), xi v1] h (some (xi r)) h :=
  xC_of (by decide) (Nat.le_of_ble_eq_true rfl) (f_B_pole_e_ok hD hf (fun _ e => by rw [e]))
theorem d118_0 : decode (xcode 118) 0 = .ok (.aload_n 0, 1) := by decide +kernel
theorem d118_1 : decode (xcode 118) 1 = .ok (.getfield 55, 3) := by decide +kernel
theorem d118_4 : decode (xcode 118) 4 = .ok (.getfield 114, 3) := by decide +kernel
theorem d118_7 : decode (xcode 118) 7 = .ok (.getfield 173, 3) := by decide +kernel
theorem d118_10 : decode (xcode 118) 10 = .ok (.ifCond .eq 12, 3) := by decide +kernel
theorem d118_13 : decode (xcode 118) 13 = .ok (.iload_n 1, 1) := by decide +kernel
theorem d118_14 : decode (xcode 118) 14 = .ok (.ifCond .lt 8, 3) := by decide +kernel
theorem d118_17 : decode (xcode 118) 17 = .ok (.iload_n 1, 1) := by decide +kernel
theorem d118_18 : decode (xcode 118) 18 = .ok (.iconst 1, 1) := by decide +kernel
theorem d118_19 : decode (xcode 118) 19 = .ok (.if_icmp .le 7, 3) := by decide +kernel
theorem d118_22 : decode (xcode 118) 22 = .ok (.sipush (-1000), 3) := by decide +kernel
theorem d118_25 : decode (xcode 118) 25 = .ok (.ireturn, 1) := by decide +kernel
theorem d118_26 : decode (xcode 118) 26 = .ok (.aload_n 0, 1) := by decide +kernel
theorem d118_27 : decode (xcode 118) 27 = .ok (.getfield 84, 3) := by decide +kernel
theorem d118_30 : decode (xcode 118) 30 = .ok (.aload_n 0, 1) := by decide +kernel
theorem d118_31 : decode (xcode 118) 31 = .ok (.getfield 55, 3) := by decide +kernel
theorem d118_34 : decode (xcode 118) 34 = .ok (.getfield 114, 3) := by decide +kernel
theorem d118_37 : decode (xcode 118) 37 = .ok (.aload_n 0, 1) := by decide +kernel
theorem d118_38 : decode (xcode 118) 38 = .ok (.getfield 55, 3) := by decide +kernel
theorem d118_41 : decode (xcode 118) 41 = .ok (.getfield 121, 3) := by decide +kernel
theorem d118_44 : decode (xcode 118) 44 = .ok (.invokevirtual 297, 3) := by decide +kernel
theorem d118_47 : decode (xcode 118) 47 = .ok (.iload_n 1, 1) := by decide +kernel
theorem d118_48 : decode (xcode 118) 48 = .ok (.ifCond .ne 13, 3) := by decide +kernel
theorem d118_51 : decode (xcode 118) 51 = .ok (.aload_n 0, 1) := by decide +kernel
theorem d118_52 : decode (xcode 118) 52 = .ok (.getfield 84, 3) := by decide +kernel
theorem d118_55 : decode (xcode 118) 55 = .ok (.getfield 300, 3) := by decide +kernel
theorem d118_58 : decode (xcode 118) 58 = .ok (.goto 10, 3) := by decide +kernel
theorem d118_61 : decode (xcode 118) 61 = .ok (.aload_n 0, 1) := by decide +kernel
theorem d118_62 : decode (xcode 118) 62 = .ok (.getfield 84, 3) := by decide +kernel
theorem d118_65 : decode (xcode 118) 65 = .ok (.getfield 303, 3) := by decide +kernel
theorem d118_68 : decode (xcode 118) 68 = .ok (.ireturn, 1) := by decide +kernel
noncomputable def f_B_game_e (v1 : Int32) (h : xH) : Option (Int32 × xH) :=
  if (h.1 8 0 0) = (0 : Int32) then (
  some (((-1000 : Int32), h))) else (
  if v1 < (0 : Int32) then (
  some (((-1000 : Int32), h))) else (
  if v1 ≤ (1 : Int32) then (
  (f_Sets_findGame 0 0 h).bind fun h6 =>
  if v1 = (0 : Int32) then (
  some ((h6.1 5 6 0, h6))) else (
  some ((h6.1 5 7 0, h6)))) else (
  some (((-1000 : Int32), h)))))
set_option maxHeartbeats 4000000 in
set_option maxRecDepth 100000 in
theorem f_B_game_e_ok {g : xG} {l : Launch} {d : Nat} {v1 : Int32} {h : xH} {o : (Int32 × xH)} {R : Option xV} {H' : xH} (hD : 2 ≤ d) (hf : f_B_game_e v1 h = some o) (K0 : ∀ (a : Int32) (h1 : xH), o = (a, h1) → R = some (xi a) ∧ H' = h1) : xEv g l d 118 0 [(0, xr 11 (some 0)), (1, xi v1)] [] h R H' := by
  unfold f_B_game_e at hf
  refine xs_aload_n d118_0 rfl ?_
  refine xe_getc (j := 0) d118_1 ky118 fl153 fk11_6 rfl ?_
  refine xe_getc (j := 0) d118_4 ky118 fl96 fk4_0 rfl ?_
  refine xe_geti d118_7 ky118 fl19 fk8_0 ?_
  rcases lk_if hf with ⟨hc1, hf⟩ | ⟨hc1, hf⟩
  · refine xs_if_eq (tgt := 22) d118_10 (by decide) (fun _ => ?_) (fun hn => absurd hc1 hn)
    refine xs_sipush (v := -1000) d118_22 (by decide) ?_
    obtain ⟨eR, eH⟩ := K0 _ _ (Option.some.inj hf).symm
    subst eR; subst eH
    exact xs_iret d118_25 rt118
  · refine xs_if_eq (tgt := 22) d118_10 (by decide) (fun hp => absurd hp hc1) (fun _ => ?_)
    refine xs_iload_n d118_13 rfl ?_
    rcases lk_if hf with ⟨hc2, hf⟩ | ⟨hc2, hf⟩
    · refine xs_if_lt (tgt := 22) d118_14 (by decide) (fun _ => ?_) (fun hn => absurd hc2 hn)
      refine xs_sipush (v := -1000) d118_22 (by decide) ?_
      obtain ⟨eR, eH⟩ := K0 _ _ (Option.some.inj hf).symm
      subst eR; subst eH
      exact xs_iret d118_25 rt118
    · refine xs_if_lt (tgt := 22) d118_14 (by decide) (fun hp => absurd hp hc2) (fun _ => ?_)
      refine xs_iload_n d118_17 rfl ?_
      refine xs_iconst (v := 1) d118_18 (by decide) ?_
      rcases lk_if hf with ⟨hc3, hf⟩ | ⟨hc3, hf⟩
      · refine xs_icmp_le (tgt := 26) d118_19 (by decide) (fun _ => ?_) (fun hn => absurd hc3 hn)
        refine xs_aload_n d118_26 rfl ?_
        refine xe_getc (j := 0) d118_27 ky118 fl158 fk11_11 rfl ?_
        refine xs_aload_n d118_30 rfl ?_
        refine xe_getc (j := 0) d118_31 ky118 fl153 fk11_6 rfl ?_
        refine xe_getc (j := 0) d118_34 ky118 fl96 fk4_0 rfl ?_
        refine xs_aload_n d118_37 rfl ?_
        refine xe_getc (j := 0) d118_38 ky118 fl153 fk11_6 rfl ?_
        refine xe_getc (j := 0) d118_41 ky118 fl98 fk4_1 rfl ?_
        obtain ⟨h6, hc5, hf⟩ := lk_b hf
        refine xe_callv0 (as := [xr 8 (some 0), xr 6 (some 0)]) (st := []) (h2 := h6) (d2 := d - 1) d118_44 ky118 ml148 st43 (by decide) cn43 rfl na43 (Nat.le_of_ble_eq_true rfl) (by omega) (f_Sets_findGame_ok (by omega) hc5) ?_
        refine xs_iload_n d118_47 rfl ?_
        rcases lk_if hf with ⟨hc7, hf⟩ | ⟨hc7, hf⟩
        · refine xs_if_ne (tgt := 61) d118_48 (by decide) (fun _ => ?_) (fun hn => absurd hc7 hn)
          refine xs_aload_n d118_51 rfl ?_
          refine xe_getc (j := 0) d118_52 ky118 fl158 fk11_11 rfl ?_
          refine xe_geti d118_55 ky118 fl131 fk5_6 ?_
          refine xs_goto (tgt := 68) d118_58 (by decide) ?_
          obtain ⟨eR, eH⟩ := K0 _ _ (Option.some.inj hf).symm
          subst eR; subst eH
          exact xs_iret d118_68 rt118
        · refine xs_if_ne (tgt := 61) d118_48 (by decide) (fun hp => absurd hp hc7) (fun _ => ?_)
          refine xs_aload_n d118_61 rfl ?_
          refine xe_getc (j := 0) d118_62 ky118 fl158 fk11_11 rfl ?_
          refine xe_geti d118_65 ky118 fl133 fk5_7 ?_
          obtain ⟨eR, eH⟩ := K0 _ _ (Option.some.inj hf).symm
          subst eR; subst eH
          exact xs_iret d118_68 rt118
      · refine xs_icmp_le (tgt := 26) d118_19 (by decide) (fun hp => absurd hp hc3) (fun _ => ?_)
        refine xs_sipush (v := -1000) d118_22 (by decide) ?_
        obtain ⟨eR, eH⟩ := K0 _ _ (Option.some.inj hf).symm
        subst eR; subst eH
        exact xs_iret d118_25 rt118
noncomputable def f_B_game (v1 : Int32) (h : xH) : Option (Int32 × xH) := f_B_game_e v1 h
theorem f_B_game_ok {g : xG} {l : Launch} {d : Nat} {v1 : Int32} {h : xH} {r : Int32} {h1 : xH} (hD : 2 ≤ d) (hf : f_B_game v1 h = some (r, h1)) : xC g l d 118 [xr 11 (some 0), xi v1] h (some (xi r)) h1 :=
  xC_of (by decide) (Nat.le_of_ble_eq_true rfl) (f_B_game_e_ok hD hf (fun _ _ e => by cases e; exact ⟨rfl, rfl⟩))
theorem d134_0 : decode (xcode 134) 0 = .ok (.iload_n 1, 1) := by decide +kernel
theorem d134_1 : decode (xcode 134) 1 = .ok (.istore 4, 2) := by decide +kernel
theorem d134_3 : decode (xcode 134) 3 = .ok (.iconst 0, 1) := by decide +kernel
theorem d134_4 : decode (xcode 134) 4 = .ok (.istore 5, 2) := by decide +kernel
theorem d134_6 : decode (xcode 134) 6 = .ok (.iload_n 1, 1) := by decide +kernel
theorem d134_7 : decode (xcode 134) 7 = .ok (.aload_n 0, 1) := by decide +kernel
theorem d134_8 : decode (xcode 134) 8 = .ok (.getfield 55, 3) := by decide +kernel
theorem d134_11 : decode (xcode 134) 11 = .ok (.getfield 114, 3) := by decide +kernel
theorem d134_14 : decode (xcode 134) 14 = .ok (.getfield 154, 3) := by decide +kernel
theorem d134_17 : decode (xcode 134) 17 = .ok (.iload_n 2, 1) := by decide +kernel
theorem d134_18 : decode (xcode 134) 18 = .ok (.iaload, 1) := by decide +kernel
theorem d134_19 : decode (xcode 134) 19 = .ok (.imul, 1) := by decide +kernel
theorem d134_20 : decode (xcode 134) 20 = .ok (.iload_n 3, 1) := by decide +kernel
theorem d134_21 : decode (xcode 134) 21 = .ok (.irem, 1) := by decide +kernel
theorem d134_22 : decode (xcode 134) 22 = .ok (.istore 6, 2) := by decide +kernel
theorem d134_24 : decode (xcode 134) 24 = .ok (.iconst 0, 1) := by decide +kernel
theorem d134_25 : decode (xcode 134) 25 = .ok (.istore 7, 2) := by decide +kernel
theorem d134_27 : decode (xcode 134) 27 = .ok (.iload 7, 2) := by decide +kernel
theorem d134_29 : decode (xcode 134) 29 = .ok (.bipush 8, 2) := by decide +kernel
theorem d134_31 : decode (xcode 134) 31 = .ok (.if_icmp .ge 79, 3) := by decide +kernel
theorem d134_34 : decode (xcode 134) 34 = .ok (.aload_n 0, 1) := by decide +kernel
theorem d134_35 : decode (xcode 134) 35 = .ok (.getfield 55, 3) := by decide +kernel
theorem d134_38 : decode (xcode 134) 38 = .ok (.getfield 121, 3) := by decide +kernel
theorem d134_41 : decode (xcode 134) 41 = .ok (.iload 7, 2) := by decide +kernel
theorem d134_43 : decode (xcode 134) 43 = .ok (.invokevirtual 238, 3) := by decide +kernel
theorem d134_46 : decode (xcode 134) 46 = .ok (.ifCond .eq 58, 3) := by decide +kernel
theorem d134_49 : decode (xcode 134) 49 = .ok (.iload_n 1, 1) := by decide +kernel
theorem d134_50 : decode (xcode 134) 50 = .ok (.aload_n 0, 1) := by decide +kernel
theorem d134_51 : decode (xcode 134) 51 = .ok (.getfield 55, 3) := by decide +kernel
theorem d134_54 : decode (xcode 134) 54 = .ok (.getfield 114, 3) := by decide +kernel
theorem d134_57 : decode (xcode 134) 57 = .ok (.getfield 154, 3) := by decide +kernel
theorem d134_60 : decode (xcode 134) 60 = .ok (.iload 7, 2) := by decide +kernel
theorem d134_62 : decode (xcode 134) 62 = .ok (.iaload, 1) := by decide +kernel
theorem d134_63 : decode (xcode 134) 63 = .ok (.imul, 1) := by decide +kernel
theorem d134_64 : decode (xcode 134) 64 = .ok (.istore 8, 2) := by decide +kernel
theorem d134_66 : decode (xcode 134) 66 = .ok (.iload 4, 2) := by decide +kernel
theorem d134_68 : decode (xcode 134) 68 = .ok (.iload 8, 2) := by decide +kernel
theorem d134_70 : decode (xcode 134) 70 = .ok (.iload_n 3, 1) := by decide +kernel
theorem d134_71 : decode (xcode 134) 71 = .ok (.idiv, 1) := by decide +kernel
theorem d134_72 : decode (xcode 134) 72 = .ok (.isub, 1) := by decide +kernel
theorem d134_73 : decode (xcode 134) 73 = .ok (.istore 4, 2) := by decide +kernel
theorem d134_75 : decode (xcode 134) 75 = .ok (.iload 8, 2) := by decide +kernel
theorem d134_77 : decode (xcode 134) 77 = .ok (.iload_n 3, 1) := by decide +kernel
theorem d134_78 : decode (xcode 134) 78 = .ok (.irem, 1) := by decide +kernel
theorem d134_79 : decode (xcode 134) 79 = .ok (.istore 9, 2) := by decide +kernel
theorem d134_81 : decode (xcode 134) 81 = .ok (.iload 9, 2) := by decide +kernel
theorem d134_83 : decode (xcode 134) 83 = .ok (.iload 6, 2) := by decide +kernel
theorem d134_85 : decode (xcode 134) 85 = .ok (.if_icmp .gt 16, 3) := by decide +kernel
theorem d134_88 : decode (xcode 134) 88 = .ok (.iload 9, 2) := by decide +kernel
theorem d134_90 : decode (xcode 134) 90 = .ok (.iload 6, 2) := by decide +kernel
theorem d134_92 : decode (xcode 134) 92 = .ok (.if_icmp .ne 12, 3) := by decide +kernel
theorem d134_95 : decode (xcode 134) 95 = .ok (.iload 7, 2) := by decide +kernel
theorem d134_97 : decode (xcode 134) 97 = .ok (.iload_n 2, 1) := by decide +kernel
theorem d134_98 : decode (xcode 134) 98 = .ok (.if_icmp .ge 6, 3) := by decide +kernel
theorem d134_101 : decode (xcode 134) 101 = .ok (.iinc 5 1, 3) := by decide +kernel
theorem d134_104 : decode (xcode 134) 104 = .ok (.iinc 7 1, 3) := by decide +kernel
theorem d134_107 : decode (xcode 134) 107 = .ok (.goto (-80), 3) := by decide +kernel
theorem d134_110 : decode (xcode 134) 110 = .ok (.iload 5, 2) := by decide +kernel
theorem d134_112 : decode (xcode 134) 112 = .ok (.iload 4, 2) := by decide +kernel
theorem d134_114 : decode (xcode 134) 114 = .ok (.if_icmp .ge 7, 3) := by decide +kernel
theorem d134_117 : decode (xcode 134) 117 = .ok (.iconst 1, 1) := by decide +kernel
theorem d134_118 : decode (xcode 134) 118 = .ok (.goto 4, 3) := by decide +kernel
theorem d134_121 : decode (xcode 134) 121 = .ok (.iconst 0, 1) := by decide +kernel
theorem d134_122 : decode (xcode 134) 122 = .ok (.ireturn, 1) := by decide +kernel
noncomputable def f_B_penny_b110 (v4 : Int32) (v5 : Int32) (h : xH) : Option Int32 :=
  if v4 ≤ v5 then (
  some ((0 : Int32))) else (
  some ((1 : Int32)))
set_option maxHeartbeats 4000000 in
set_option maxRecDepth 100000 in
theorem f_B_penny_b110_ok {g : xG} {l : Launch} {d : Nat} {v4 : Int32} {v5 : Int32} {h : xH} {o : Int32} {R : Option xV} (hD : 1 ≤ d) (hf : f_B_penny_b110 v4 v5 h = some o) (K0 : ∀ (a : Int32), o = a → R = some (xi a)) : xEv g l d 134 110 [(4, xi v4), (5, xi v5)] [] h R h := by
  unfold f_B_penny_b110 at hf
  refine xs_iload d134_110 rfl ?_
  refine xs_iload d134_112 rfl ?_
  rcases lk_if hf with ⟨hc5, hf⟩ | ⟨hc5, hf⟩
  · refine xs_icmp_ge (tgt := 121) d134_114 (by decide) (fun _ => ?_) (fun hn => absurd hc5 hn)
    refine xs_iconst (v := 0) d134_121 (by decide) ?_
    obtain eR := K0 _ (Option.some.inj hf).symm
    subst eR
    exact xs_iret d134_122 rt134
  · refine xs_icmp_ge (tgt := 121) d134_114 (by decide) (fun hp => absurd hp hc5) (fun _ => ?_)
    refine xs_iconst (v := 1) d134_117 (by decide) ?_
    refine xs_goto (tgt := 122) d134_118 (by decide) ?_
    obtain eR := K0 _ (Option.some.inj hf).symm
    subst eR
    exact xs_iret d134_122 rt134
noncomputable def f_B_penny_b104 (v1 : Int32) (v2 : Int32) (v3 : Int32) (v4 : Int32) (v5 : Int32) (v6 : Int32) (v7 : Int32) (h : xH) : Option ((Int32 × Int32 × Int32) ⊕ Int32) :=
  xlet (v7 + (1 : Int32)) fun v7_9 =>
  some (Sum.inl (v4, v5, v7_9))
set_option maxHeartbeats 4000000 in
set_option maxRecDepth 100000 in
theorem f_B_penny_b104_ok {g : xG} {l : Launch} {d : Nat} {v1 : Int32} {v2 : Int32} {v3 : Int32} {v4 : Int32} {v5 : Int32} {v6 : Int32} {v7 : Int32} {h : xH} {o : ((Int32 × Int32 × Int32) ⊕ Int32)} {R : Option xV} (hD : 1 ≤ d) (hf : f_B_penny_b104 v1 v2 v3 v4 v5 v6 v7 h = some o) (K1 : ∀ (w4 : Int32) (w5 : Int32) (w7 : Int32), o = Sum.inl (w4, w5, w7) → xEv g l d 134 27 [(0, xr 11 (some 0)), (1, xi v1), (2, xi v2), (3, xi v3), (4, xi w4), (5, xi w5), (6, xi v6), (7, xi w7)] [] h R h) (K0 : ∀ (a : Int32), o = Sum.inr (a) → R = some (xi a)) : xEv g l d 134 104 [(0, xr 11 (some 0)), (1, xi v1), (2, xi v2), (3, xi v3), (4, xi v4), (5, xi v5), (6, xi v6), (7, xi v7)] [] h R h := by
  unfold f_B_penny_b104 at hf
  obtain ⟨v7_9, ev7_9, hf⟩ := lk_let hf
  refine xe_iinc (v := v7_9) (b := 1) (ls2 := [(0, xr 11 (some 0)), (1, xi v1), (2, xi v2), (3, xi v3), (4, xi v4), (5, xi v5), (6, xi v6), (7, xi v7_9)]) d134_104 mx134 (by decide) rfl (by decide) ev7_9 rfl ?_
  refine xs_goto (tgt := 27) d134_107 (by decide) ?_
  exact K1 _ _ _ (Option.some.inj hf).symm
noncomputable def f_B_penny_b101 (v1 : Int32) (v2 : Int32) (v3 : Int32) (v4 : Int32) (v5 : Int32) (v6 : Int32) (v7 : Int32) (h : xH) : Option ((Int32 × Int32 × Int32) ⊕ Int32) :=
  xlet (v5 + (1 : Int32)) fun v5_17 =>
  f_B_penny_b104 v1 v2 v3 v4 v5_17 v6 v7 h
set_option maxHeartbeats 4000000 in
set_option maxRecDepth 100000 in
theorem f_B_penny_b101_ok {g : xG} {l : Launch} {d : Nat} {v1 : Int32} {v2 : Int32} {v3 : Int32} {v4 : Int32} {v5 : Int32} {v6 : Int32} {v7 : Int32} {h : xH} {o : ((Int32 × Int32 × Int32) ⊕ Int32)} {R : Option xV} (hD : 1 ≤ d) (hf : f_B_penny_b101 v1 v2 v3 v4 v5 v6 v7 h = some o) (K1 : ∀ (w4 : Int32) (w5 : Int32) (w7 : Int32), o = Sum.inl (w4, w5, w7) → xEv g l d 134 27 [(0, xr 11 (some 0)), (1, xi v1), (2, xi v2), (3, xi v3), (4, xi w4), (5, xi w5), (6, xi v6), (7, xi w7)] [] h R h) (K0 : ∀ (a : Int32), o = Sum.inr (a) → R = some (xi a)) : xEv g l d 134 101 [(0, xr 11 (some 0)), (1, xi v1), (2, xi v2), (3, xi v3), (4, xi v4), (5, xi v5), (6, xi v6), (7, xi v7)] [] h R h := by
  unfold f_B_penny_b101 at hf
  obtain ⟨v5_17, ev5_17, hf⟩ := lk_let hf
  refine xe_iinc (v := v5_17) (b := 1) (ls2 := [(0, xr 11 (some 0)), (1, xi v1), (2, xi v2), (3, xi v3), (4, xi v4), (5, xi v5_17), (6, xi v6), (7, xi v7)]) d134_101 mx134 (by decide) rfl (by decide) ev5_17 rfl ?_
  exact f_B_penny_b104_ok hD hf K1 K0
noncomputable def f_B_penny_s27 (v1 : Int32) (v2 : Int32) (v3 : Int32) (v4 : Int32) (v5 : Int32) (v6 : Int32) (v7 : Int32) (h : xH) : Option ((Int32 × Int32 × Int32) ⊕ Int32) :=
  if (8 : Int32) ≤ v7 then (
  xup (f_B_penny_b110 v4 v5 h)) else (
  (f_State_isLetBe 0 v7 h).bind fun r6 =>
  if r6 = (0 : Int32) then (
  f_B_penny_b104 v1 v2 v3 v4 v5 v6 v7 h) else (
  if xib v7 8 then (
  xlet (v1 * (h.2.2.2.1 39 0 (v7).toNatClampNeg)) fun v8_11 =>
  if ¬ v3 = 0 then (
  xlet (v4 - (v8_11 / v3)) fun v4_13 =>
  if ¬ v3 = 0 then (
  xlet (v8_11 - v8_11 / v3 * v3) fun v9_15 =>
  if v6 < v9_15 then (
  f_B_penny_b101 v1 v2 v3 v4_13 v5 v6 v7 h) else (
  if v9_15 = v6 then (
  if v2 ≤ v7 then (
  f_B_penny_b104 v1 v2 v3 v4_13 v5 v6 v7 h) else (
  f_B_penny_b101 v1 v2 v3 v4_13 v5 v6 v7 h)) else (
  f_B_penny_b104 v1 v2 v3 v4_13 v5 v6 v7 h))) else none) else none) else none))
set_option maxHeartbeats 4000000 in
set_option maxRecDepth 100000 in
theorem f_B_penny_s27_ok {g : xG} {l : Launch} {d : Nat} {v1 : Int32} {v2 : Int32} {v3 : Int32} {v4 : Int32} {v5 : Int32} {v6 : Int32} {v7 : Int32} {h : xH} {o : ((Int32 × Int32 × Int32) ⊕ Int32)} {R : Option xV} (hD : 1 ≤ d) (hf : f_B_penny_s27 v1 v2 v3 v4 v5 v6 v7 h = some o) (K1 : ∀ (w4 : Int32) (w5 : Int32) (w7 : Int32), o = Sum.inl (w4, w5, w7) → xEv g l d 134 27 [(0, xr 11 (some 0)), (1, xi v1), (2, xi v2), (3, xi v3), (4, xi w4), (5, xi w5), (6, xi v6), (7, xi w7)] [] h R h) (K0 : ∀ (a : Int32), o = Sum.inr (a) → R = some (xi a)) : xEv g l d 134 27 [(0, xr 11 (some 0)), (1, xi v1), (2, xi v2), (3, xi v3), (4, xi v4), (5, xi v5), (6, xi v6), (7, xi v7)] [] h R h := by
  unfold f_B_penny_s27 at hf
  refine xs_iload d134_27 rfl ?_
  refine xs_bipush (v := 8) d134_29 (by decide) ?_
  rcases lk_if hf with ⟨hc4, hf⟩ | ⟨hc4, hf⟩
  · refine xs_icmp_ge (tgt := 110) d134_31 (by decide) (fun _ => ?_) (fun hn => absurd hc4 hn)
    refine xs_pick [4, 5] rfl ?_
    obtain ⟨x0, hf, ex0⟩ := lk_up hf
    exact f_B_penny_b110_ok hD hf (fun u0 e => K0 u0 (ex0.trans (congrArg Sum.inr e)))
  · refine xs_icmp_ge (tgt := 110) d134_31 (by decide) (fun hp => absurd hp hc4) (fun _ => ?_)
    refine xs_aload_n d134_34 rfl ?_
    refine xe_getc (j := 0) d134_35 ky134 fl153 fk11_6 rfl ?_
    refine xe_getc (j := 0) d134_38 ky134 fl98 fk4_1 rfl ?_
    refine xs_iload d134_41 rfl ?_
    obtain ⟨r6, hc7, hf⟩ := lk_b hf
    refine xe_callv1 (as := [xi v7]) (st := []) (h2 := h) (d2 := d - 1) d134_43 ky134 ml108 st48 (by decide) cn48 rfl na48 (Nat.le_of_ble_eq_true rfl) (by omega) (f_State_isLetBe_ok (by omega) hc7) ?_
    rcases lk_if hf with ⟨hc8, hf⟩ | ⟨hc8, hf⟩
    · refine xs_if_eq (tgt := 104) d134_46 (by decide) (fun _ => ?_) (fun hn => absurd hc8 hn)
      exact f_B_penny_b104_ok hD hf K1 K0
    · refine xs_if_eq (tgt := 104) d134_46 (by decide) (fun hp => absurd hp hc8) (fun _ => ?_)
      refine xs_iload_n d134_49 rfl ?_
      refine xs_aload_n d134_50 rfl ?_
      refine xe_getc (j := 0) d134_51 ky134 fl153 fk11_6 rfl ?_
      refine xe_getc (j := 0) d134_54 ky134 fl96 fk4_0 rfl ?_
      refine xe_getc (j := 0) d134_57 ky134 fl46 fk8_7 rfl ?_
      refine xs_iload d134_60 rfl ?_
      obtain ⟨hin10, hf⟩ := lk_g hf
      refine xe_iald d134_62 (by decide) ak39 hin10 ?_
      refine xs_imul d134_63 ?_
      obtain ⟨v8_11, ev8_11, hf⟩ := lk_let hf
      refine xe_istore (v := v8_11) (ls2 := [(0, xr 11 (some 0)), (1, xi v1), (2, xi v2), (3, xi v3), (4, xi v4), (5, xi v5), (6, xi v6), (7, xi v7), (8, xi v8_11)]) d134_64 mx134 (by decide) ev8_11 rfl ?_
      refine xs_iload d134_66 rfl ?_
      refine xs_iload d134_68 rfl ?_
      refine xs_iload_n d134_70 rfl ?_
      obtain ⟨hb12, hf⟩ := lk_g hf
      refine xs_idiv d134_71 hb12 ?_
      refine xs_isub d134_72 ?_
      obtain ⟨v4_13, ev4_13, hf⟩ := lk_let hf
      refine xe_istore (v := v4_13) (ls2 := [(0, xr 11 (some 0)), (1, xi v1), (2, xi v2), (3, xi v3), (4, xi v4_13), (5, xi v5), (6, xi v6), (7, xi v7), (8, xi v8_11)]) d134_73 mx134 (by decide) ev4_13 rfl ?_
      refine xs_iload d134_75 rfl ?_
      refine xs_iload_n d134_77 rfl ?_
      obtain ⟨hb14, hf⟩ := lk_g hf
      refine xs_irem d134_78 hb14 ?_
      obtain ⟨v9_15, ev9_15, hf⟩ := lk_let hf
      refine xe_istore (v := v9_15) (ls2 := [(0, xr 11 (some 0)), (1, xi v1), (2, xi v2), (3, xi v3), (4, xi v4_13), (5, xi v5), (6, xi v6), (7, xi v7), (8, xi v8_11), (9, xi v9_15)]) d134_79 mx134 (by decide) ev9_15 rfl ?_
      refine xs_iload d134_81 rfl ?_
      refine xs_iload d134_83 rfl ?_
      rcases lk_if hf with ⟨hc16, hf⟩ | ⟨hc16, hf⟩
      · refine xs_icmp_gt (tgt := 101) d134_85 (by decide) (fun _ => ?_) (fun hn => absurd hc16 hn)
        refine xs_pick [0, 1, 2, 3, 4, 5, 6, 7] rfl ?_
        exact f_B_penny_b101_ok hD hf K1 K0
      · refine xs_icmp_gt (tgt := 101) d134_85 (by decide) (fun hp => absurd hp hc16) (fun _ => ?_)
        refine xs_iload d134_88 rfl ?_
        refine xs_iload d134_90 rfl ?_
        rcases lk_if hf with ⟨hc18, hf⟩ | ⟨hc18, hf⟩
        · refine xs_icmp_ne (tgt := 104) d134_92 (by decide) (fun _ => ?_) (fun hn => absurd hc18 hn)
          refine xs_iload d134_95 rfl ?_
          refine xs_iload_n d134_97 rfl ?_
          rcases lk_if hf with ⟨hc19, hf⟩ | ⟨hc19, hf⟩
          · refine xs_icmp_ge (tgt := 104) d134_98 (by decide) (fun _ => ?_) (fun hn => absurd hc19 hn)
            refine xs_pick [0, 1, 2, 3, 4, 5, 6, 7] rfl ?_
            exact f_B_penny_b104_ok hD hf K1 K0
          · refine xs_icmp_ge (tgt := 104) d134_98 (by decide) (fun hp => absurd hp hc19) (fun _ => ?_)
            refine xs_pick [0, 1, 2, 3, 4, 5, 6, 7] rfl ?_
            exact f_B_penny_b101_ok hD hf K1 K0
        · refine xs_icmp_ne (tgt := 104) d134_92 (by decide) (fun hp => absurd hp hc18) (fun _ => ?_)
          refine xs_pick [0, 1, 2, 3, 4, 5, 6, 7] rfl ?_
          exact f_B_penny_b104_ok hD hf K1 K0
noncomputable def f_B_penny_l27 (v1 : Int32) (v2 : Int32) (v3 : Int32) (v4 : Int32) (v5 : Int32) (v6 : Int32) (v7 : Int32) (h : xH) : Option Int32 :=
  whl (fun s => f_B_penny_s27 v1 v2 v3 s.1 s.2.1 v6 s.2.2 h) (v4, v5, v7)
theorem f_B_penny_l27_ok {g : xG} {l : Launch} {d : Nat} {v1 : Int32} {v2 : Int32} {v3 : Int32} {v4 : Int32} {v5 : Int32} {v6 : Int32} {v7 : Int32} {h : xH} {o : Int32} {R : Option xV} (hD : 1 ≤ d) (hf : f_B_penny_l27 v1 v2 v3 v4 v5 v6 v7 h = some o) (K0 : ∀ (a : Int32), o = a → R = some (xi a)) : xEv g l d 134 27 [(0, xr 11 (some 0)), (1, xi v1), (2, xi v2), (3, xi v3), (4, xi v4), (5, xi v5), (6, xi v6), (7, xi v7)] [] h R h := by
  obtain ⟨n, hn⟩ := whl_iff.mp hf
  clear hf
  induction n generalizing v4 v5 v7 with
  | zero => cases hn
  | succ n ih =>
    obtain ⟨o2, hs, hn⟩ := lk_b (show (f_B_penny_s27 v1 v2 v3 v4 v5 v6 v7 h).bind (fun o => Sum.elim (itn _ n) some o) = some o from hn)
    exact f_B_penny_s27_ok hD hs (fun u0 u1 u2 e => ih (by rw [e] at hn; exact hn)) (fun u0 e => K0 u0 (by rw [e] at hn; exact (Option.some.inj hn).symm))
noncomputable def f_B_penny_e (v1 : Int32) (v2 : Int32) (v3 : Int32) (h : xH) : Option Int32 :=
  if xib v2 8 then (
  if ¬ v3 = 0 then (
  xlet ((v1 * (h.2.2.2.1 39 0 (v2).toNatClampNeg)) - (v1 * (h.2.2.2.1 39 0 (v2).toNatClampNeg)) / v3 * v3) fun v6_3 =>
  f_B_penny_l27 v1 v2 v3 v1 (0 : Int32) v6_3 (0 : Int32) h) else none) else none
set_option maxHeartbeats 4000000 in
set_option maxRecDepth 100000 in
theorem f_B_penny_e_ok {g : xG} {l : Launch} {d : Nat} {v1 : Int32} {v2 : Int32} {v3 : Int32} {h : xH} {o : Int32} {R : Option xV} (hD : 1 ≤ d) (hf : f_B_penny_e v1 v2 v3 h = some o) (K0 : ∀ (a : Int32), o = a → R = some (xi a)) : xEv g l d 134 0 [(0, xr 11 (some 0)), (1, xi v1), (2, xi v2), (3, xi v3)] [] h R h := by
  unfold f_B_penny_e at hf
  refine xs_iload_n d134_0 rfl ?_
  refine xe_istore (v := v1) (ls2 := [(0, xr 11 (some 0)), (1, xi v1), (2, xi v2), (3, xi v3), (4, xi v1)]) d134_1 mx134 (by decide) rfl rfl ?_
  refine xs_iconst (v := 0) d134_3 (by decide) ?_
  refine xe_istore (v := (0 : Int32)) (ls2 := [(0, xr 11 (some 0)), (1, xi v1), (2, xi v2), (3, xi v3), (4, xi v1), (5, xi (0 : Int32))]) d134_4 mx134 (by decide) rfl rfl ?_
  refine xs_iload_n d134_6 rfl ?_
  refine xs_aload_n d134_7 rfl ?_
  refine xe_getc (j := 0) d134_8 ky134 fl153 fk11_6 rfl ?_
  refine xe_getc (j := 0) d134_11 ky134 fl96 fk4_0 rfl ?_
  refine xe_getc (j := 0) d134_14 ky134 fl46 fk8_7 rfl ?_
  refine xs_iload_n d134_17 rfl ?_
  obtain ⟨hin1, hf⟩ := lk_g hf
  refine xe_iald d134_18 (by decide) ak39 hin1 ?_
  refine xs_imul d134_19 ?_
  refine xs_iload_n d134_20 rfl ?_
  obtain ⟨hb2, hf⟩ := lk_g hf
  refine xs_irem d134_21 hb2 ?_
  obtain ⟨v6_3, ev6_3, hf⟩ := lk_let hf
  refine xe_istore (v := v6_3) (ls2 := [(0, xr 11 (some 0)), (1, xi v1), (2, xi v2), (3, xi v3), (4, xi v1), (5, xi (0 : Int32)), (6, xi v6_3)]) d134_22 mx134 (by decide) ev6_3 rfl ?_
  refine xs_iconst (v := 0) d134_24 (by decide) ?_
  refine xe_istore (v := (0 : Int32)) (ls2 := [(0, xr 11 (some 0)), (1, xi v1), (2, xi v2), (3, xi v3), (4, xi v1), (5, xi (0 : Int32)), (6, xi v6_3), (7, xi (0 : Int32))]) d134_25 mx134 (by decide) rfl rfl ?_
  exact f_B_penny_l27_ok hD hf K0
noncomputable def f_B_penny (v1 : Int32) (v2 : Int32) (v3 : Int32) (h : xH) : Option Int32 := f_B_penny_e v1 v2 v3 h
theorem f_B_penny_ok {g : xG} {l : Launch} {d : Nat} {v1 : Int32} {v2 : Int32} {v3 : Int32} {h : xH} {r : Int32} (hD : 1 ≤ d) (hf : f_B_penny v1 v2 v3 h = some r) : xC g l d 134 [xr 11 (some 0), xi v1, xi v2, xi v3] h (some (xi r)) h :=
  xC_of (by decide) (Nat.le_of_ble_eq_true rfl) (f_B_penny_e_ok hD hf (fun _ e => by rw [e]))
theorem d119_0 : decode (xcode 119) 0 = .ok (.iload_n 1, 1) := by decide +kernel
theorem d119_1 : decode (xcode 119) 1 = .ok (.ifCond .lt 24, 3) := by decide +kernel
theorem d119_4 : decode (xcode 119) 4 = .ok (.iload_n 1, 1) := by decide +kernel
theorem d119_5 : decode (xcode 119) 5 = .ok (.sipush 9999, 3) := by decide +kernel
theorem d119_8 : decode (xcode 119) 8 = .ok (.if_icmp .gt 17, 3) := by decide +kernel
theorem d119_11 : decode (xcode 119) 11 = .ok (.aload_n 0, 1) := by decide +kernel
theorem d119_12 : decode (xcode 119) 12 = .ok (.getfield 55, 3) := by decide +kernel
theorem d119_15 : decode (xcode 119) 15 = .ok (.getfield 114, 3) := by decide +kernel
theorem d119_18 : decode (xcode 119) 18 = .ok (.iload_n 2, 1) := by decide +kernel
theorem d119_19 : decode (xcode 119) 19 = .ok (.invokevirtual 145, 3) := by decide +kernel
theorem d119_22 : decode (xcode 119) 22 = .ok (.ifCond .ne 5, 3) := by decide +kernel
theorem d119_25 : decode (xcode 119) 25 = .ok (.iconst (-1), 1) := by decide +kernel
theorem d119_26 : decode (xcode 119) 26 = .ok (.ireturn, 1) := by decide +kernel
theorem d119_27 : decode (xcode 119) 27 = .ok (.aload_n 0, 1) := by decide +kernel
theorem d119_28 : decode (xcode 119) 28 = .ok (.getfield 55, 3) := by decide +kernel
theorem d119_31 : decode (xcode 119) 31 = .ok (.getfield 114, 3) := by decide +kernel
theorem d119_34 : decode (xcode 119) 34 = .ok (.aload_n 0, 1) := by decide +kernel
theorem d119_35 : decode (xcode 119) 35 = .ok (.getfield 55, 3) := by decide +kernel
theorem d119_38 : decode (xcode 119) 38 = .ok (.getfield 121, 3) := by decide +kernel
theorem d119_41 : decode (xcode 119) 41 = .ok (.getfield 218, 3) := by decide +kernel
theorem d119_44 : decode (xcode 119) 44 = .ok (.invokevirtual 221, 3) := by decide +kernel
theorem d119_47 : decode (xcode 119) 47 = .ok (.istore_n 3, 1) := by decide +kernel
theorem d119_48 : decode (xcode 119) 48 = .ok (.iload_n 3, 1) := by decide +kernel
theorem d119_49 : decode (xcode 119) 49 = .ok (.ifCond .eq 17, 3) := by decide +kernel
theorem d119_52 : decode (xcode 119) 52 = .ok (.aload_n 0, 1) := by decide +kernel
theorem d119_53 : decode (xcode 119) 53 = .ok (.getfield 55, 3) := by decide +kernel
theorem d119_56 : decode (xcode 119) 56 = .ok (.getfield 121, 3) := by decide +kernel
theorem d119_59 : decode (xcode 119) 59 = .ok (.iload_n 2, 1) := by decide +kernel
theorem d119_60 : decode (xcode 119) 60 = .ok (.invokevirtual 238, 3) := by decide +kernel
theorem d119_63 : decode (xcode 119) 63 = .ok (.ifCond .ne 5, 3) := by decide +kernel
theorem d119_66 : decode (xcode 119) 66 = .ok (.iconst 0, 1) := by decide +kernel
theorem d119_67 : decode (xcode 119) 67 = .ok (.ireturn, 1) := by decide +kernel
theorem d119_68 : decode (xcode 119) 68 = .ok (.iload_n 1, 1) := by decide +kernel
theorem d119_69 : decode (xcode 119) 69 = .ok (.aload_n 0, 1) := by decide +kernel
theorem d119_70 : decode (xcode 119) 70 = .ok (.getfield 55, 3) := by decide +kernel
theorem d119_73 : decode (xcode 119) 73 = .ok (.getfield 114, 3) := by decide +kernel
theorem d119_76 : decode (xcode 119) 76 = .ok (.getfield 154, 3) := by decide +kernel
theorem d119_79 : decode (xcode 119) 79 = .ok (.iload_n 2, 1) := by decide +kernel
theorem d119_80 : decode (xcode 119) 80 = .ok (.iaload, 1) := by decide +kernel
theorem d119_81 : decode (xcode 119) 81 = .ok (.imul, 1) := by decide +kernel
theorem d119_82 : decode (xcode 119) 82 = .ok (.iload_n 3, 1) := by decide +kernel
theorem d119_83 : decode (xcode 119) 83 = .ok (.idiv, 1) := by decide +kernel
theorem d119_84 : decode (xcode 119) 84 = .ok (.aload_n 0, 1) := by decide +kernel
theorem d119_85 : decode (xcode 119) 85 = .ok (.iload_n 1, 1) := by decide +kernel
theorem d119_86 : decode (xcode 119) 86 = .ok (.iload_n 2, 1) := by decide +kernel
theorem d119_87 : decode (xcode 119) 87 = .ok (.iload_n 3, 1) := by decide +kernel
theorem d119_88 : decode (xcode 119) 88 = .ok (.invokevirtual 306, 3) := by decide +kernel
theorem d119_91 : decode (xcode 119) 91 = .ok (.iadd, 1) := by decide +kernel
theorem d119_92 : decode (xcode 119) 92 = .ok (.ireturn, 1) := by decide +kernel
noncomputable def f_B_pence_e (v1 : Int32) (v2 : Int32) (h : xH) : Option Int32 :=
  if v1 < (0 : Int32) then (
  some ((-1 : Int32))) else (
  if (9999 : Int32) < v1 then (
  some ((-1 : Int32))) else (
  (f_Told_hasSorrow 0 v2 h).bind fun r3 =>
  if r3 = (0 : Int32) then (
  some ((-1 : Int32))) else (
  (f_Told_deepOf 0 (h.1 6 3 0) h).bind fun r6 =>
  if r6 = (0 : Int32) then (
  some ((0 : Int32))) else (
  (f_State_isLetBe 0 v2 h).bind fun r9 =>
  if r9 = (0 : Int32) then (
  some ((0 : Int32))) else (
  if xib v2 8 then (
  if ¬ r6 = 0 then (
  (f_B_penny v1 v2 r6 h).bind fun r14 =>
  some (((v1 * (h.2.2.2.1 39 0 (v2).toNatClampNeg)) / r6) + r14)) else none) else none)))))
set_option maxHeartbeats 4000000 in
set_option maxRecDepth 100000 in
theorem f_B_pence_e_ok {g : xG} {l : Launch} {d : Nat} {v1 : Int32} {v2 : Int32} {h : xH} {o : Int32} {R : Option xV} (hD : 2 ≤ d) (hf : f_B_pence_e v1 v2 h = some o) (K0 : ∀ (a : Int32), o = a → R = some (xi a)) : xEv g l d 119 0 [(0, xr 11 (some 0)), (1, xi v1), (2, xi v2)] [] h R h := by
  unfold f_B_pence_e at hf
  refine xs_iload_n d119_0 rfl ?_
  rcases lk_if hf with ⟨hc1, hf⟩ | ⟨hc1, hf⟩
  · refine xs_if_lt (tgt := 25) d119_1 (by decide) (fun _ => ?_) (fun hn => absurd hc1 hn)
    refine xs_iconst (v := -1) d119_25 (by decide) ?_
    obtain eR := K0 _ (Option.some.inj hf).symm
    subst eR
    exact xs_iret d119_26 rt119
  · refine xs_if_lt (tgt := 25) d119_1 (by decide) (fun hp => absurd hp hc1) (fun _ => ?_)
    refine xs_iload_n d119_4 rfl ?_
    refine xs_sipush (v := 9999) d119_5 (by decide) ?_
    rcases lk_if hf with ⟨hc2, hf⟩ | ⟨hc2, hf⟩
    · refine xs_icmp_gt (tgt := 25) d119_8 (by decide) (fun _ => ?_) (fun hn => absurd hc2 hn)
      refine xs_iconst (v := -1) d119_25 (by decide) ?_
      obtain eR := K0 _ (Option.some.inj hf).symm
      subst eR
      exact xs_iret d119_26 rt119
    · refine xs_icmp_gt (tgt := 25) d119_8 (by decide) (fun hp => absurd hp hc2) (fun _ => ?_)
      refine xs_aload_n d119_11 rfl ?_
      refine xe_getc (j := 0) d119_12 ky119 fl153 fk11_6 rfl ?_
      refine xe_getc (j := 0) d119_15 ky119 fl96 fk4_0 rfl ?_
      refine xs_iload_n d119_18 rfl ?_
      obtain ⟨r3, hc4, hf⟩ := lk_b hf
      refine xe_callv1 (as := [xi v2]) (st := []) (h2 := h) (d2 := d - 1) d119_19 ky119 ml58 st76 (by decide) cn76 rfl na76 (Nat.le_of_ble_eq_true rfl) (by omega) (f_Told_hasSorrow_ok (by omega) hc4) ?_
      rcases lk_if hf with ⟨hc5, hf⟩ | ⟨hc5, hf⟩
      · refine xs_if_ne (tgt := 27) d119_22 (by decide) (fun _ => ?_) (fun hn => absurd hc5 hn)
        refine xs_iconst (v := -1) d119_25 (by decide) ?_
        obtain eR := K0 _ (Option.some.inj hf).symm
        subst eR
        exact xs_iret d119_26 rt119
      · refine xs_if_ne (tgt := 27) d119_22 (by decide) (fun hp => absurd hp hc5) (fun _ => ?_)
        refine xs_aload_n d119_27 rfl ?_
        refine xe_getc (j := 0) d119_28 ky119 fl153 fk11_6 rfl ?_
        refine xe_getc (j := 0) d119_31 ky119 fl96 fk4_0 rfl ?_
        refine xs_aload_n d119_34 rfl ?_
        refine xe_getc (j := 0) d119_35 ky119 fl153 fk11_6 rfl ?_
        refine xe_getc (j := 0) d119_38 ky119 fl98 fk4_1 rfl ?_
        refine xe_geti d119_41 ky119 fl81 fk6_3 ?_
        obtain ⟨r6, hc7, hf⟩ := lk_b hf
        refine xe_callv1 (as := [xi (h.1 6 3 0)]) (st := []) (h2 := h) (d2 := d - 1) d119_44 ky119 ml103 st77 (by decide) cn77 rfl na77 (Nat.le_of_ble_eq_true rfl) (by omega) (f_Told_deepOf_ok (by omega) hc7) ?_
        refine xe_istore_n (v := r6) (ls2 := [(0, xr 11 (some 0)), (1, xi v1), (2, xi v2), (3, xi r6)]) d119_47 mx119 (by decide) rfl rfl ?_
        refine xs_iload_n d119_48 rfl ?_
        rcases lk_if hf with ⟨hc8, hf⟩ | ⟨hc8, hf⟩
        · refine xs_if_eq (tgt := 66) d119_49 (by decide) (fun _ => ?_) (fun hn => absurd hc8 hn)
          refine xs_iconst (v := 0) d119_66 (by decide) ?_
          obtain eR := K0 _ (Option.some.inj hf).symm
          subst eR
          exact xs_iret d119_67 rt119
        · refine xs_if_eq (tgt := 66) d119_49 (by decide) (fun hp => absurd hp hc8) (fun _ => ?_)
          refine xs_aload_n d119_52 rfl ?_
          refine xe_getc (j := 0) d119_53 ky119 fl153 fk11_6 rfl ?_
          refine xe_getc (j := 0) d119_56 ky119 fl98 fk4_1 rfl ?_
          refine xs_iload_n d119_59 rfl ?_
          obtain ⟨r9, hc10, hf⟩ := lk_b hf
          refine xe_callv1 (as := [xi v2]) (st := []) (h2 := h) (d2 := d - 1) d119_60 ky119 ml108 st48 (by decide) cn48 rfl na48 (Nat.le_of_ble_eq_true rfl) (by omega) (f_State_isLetBe_ok (by omega) hc10) ?_
          rcases lk_if hf with ⟨hc11, hf⟩ | ⟨hc11, hf⟩
          · refine xs_if_ne (tgt := 68) d119_63 (by decide) (fun _ => ?_) (fun hn => absurd hc11 hn)
            refine xs_iconst (v := 0) d119_66 (by decide) ?_
            obtain eR := K0 _ (Option.some.inj hf).symm
            subst eR
            exact xs_iret d119_67 rt119
          · refine xs_if_ne (tgt := 68) d119_63 (by decide) (fun hp => absurd hp hc11) (fun _ => ?_)
            refine xs_iload_n d119_68 rfl ?_
            refine xs_aload_n d119_69 rfl ?_
            refine xe_getc (j := 0) d119_70 ky119 fl153 fk11_6 rfl ?_
            refine xe_getc (j := 0) d119_73 ky119 fl96 fk4_0 rfl ?_
            refine xe_getc (j := 0) d119_76 ky119 fl46 fk8_7 rfl ?_
            refine xs_iload_n d119_79 rfl ?_
            obtain ⟨hin12, hf⟩ := lk_g hf
            refine xe_iald d119_80 (by decide) ak39 hin12 ?_
            refine xs_imul d119_81 ?_
            refine xs_iload_n d119_82 rfl ?_
            obtain ⟨hb13, hf⟩ := lk_g hf
            refine xs_idiv d119_83 hb13 ?_
            refine xs_aload_n d119_84 rfl ?_
            refine xs_iload_n d119_85 rfl ?_
            refine xs_iload_n d119_86 rfl ?_
            refine xs_iload_n d119_87 rfl ?_
            obtain ⟨r14, hc15, hf⟩ := lk_b hf
            refine xe_callv1 (as := [xi v1, xi v2, xi r6]) (st := [xi ((v1 * (h.2.2.2.1 39 0 (v2).toNatClampNeg)) / r6)]) (h2 := h) (d2 := d - 1) d119_88 ky119 ml151 st134 (by decide) cn134 rfl na134 (Nat.le_of_ble_eq_true rfl) (by omega) (f_B_penny_ok (by omega) hc15) ?_
            refine xs_iadd d119_91 ?_
            obtain eR := K0 _ (Option.some.inj hf).symm
            subst eR
            exact xs_iret d119_92 rt119
noncomputable def f_B_pence (v1 : Int32) (v2 : Int32) (h : xH) : Option Int32 := f_B_pence_e v1 v2 h
theorem f_B_pence_ok {g : xG} {l : Launch} {d : Nat} {v1 : Int32} {v2 : Int32} {h : xH} {r : Int32} (hD : 2 ≤ d) (hf : f_B_pence v1 v2 h = some r) : xC g l d 119 [xr 11 (some 0), xi v1, xi v2] h (some (xi r)) h :=
  xC_of (by decide) (Nat.le_of_ble_eq_true rfl) (f_B_pence_e_ok hD hf (fun _ e => by rw [e]))
theorem d120_0 : decode (xcode 120) 0 = .ok (.iload_n 1, 1) := by decide +kernel
theorem d120_1 : decode (xcode 120) 1 = .ok (.iconst (-1), 1) := by decide +kernel
theorem d120_2 : decode (xcode 120) 2 = .ok (.if_icmp .ne 13, 3) := by decide +kernel
theorem d120_5 : decode (xcode 120) 5 = .ok (.aload_n 0, 1) := by decide +kernel
theorem d120_6 : decode (xcode 120) 6 = .ok (.getfield 55, 3) := by decide +kernel
theorem d120_9 : decode (xcode 120) 9 = .ok (.iconst 0, 1) := by decide +kernel
theorem d120_10 : decode (xcode 120) 10 = .ok (.putfield 130, 3) := by decide +kernel
theorem d120_13 : decode (xcode 120) 13 = .ok (.iconst 0, 1) := by decide +kernel
theorem d120_14 : decode (xcode 120) 14 = .ok (.ireturn, 1) := by decide +kernel
theorem d120_15 : decode (xcode 120) 15 = .ok (.aload_n 0, 1) := by decide +kernel
theorem d120_16 : decode (xcode 120) 16 = .ok (.getfield 55, 3) := by decide +kernel
theorem d120_19 : decode (xcode 120) 19 = .ok (.getfield 114, 3) := by decide +kernel
theorem d120_22 : decode (xcode 120) 22 = .ok (.getfield 173, 3) := by decide +kernel
theorem d120_25 : decode (xcode 120) 25 = .ok (.ifCond .eq 25, 3) := by decide +kernel
theorem d120_28 : decode (xcode 120) 28 = .ok (.iload_n 1, 1) := by decide +kernel
theorem d120_29 : decode (xcode 120) 29 = .ok (.ifCond .lt 21, 3) := by decide +kernel
theorem d120_32 : decode (xcode 120) 32 = .ok (.iload_n 1, 1) := by decide +kernel
theorem d120_33 : decode (xcode 120) 33 = .ok (.bipush 61, 2) := by decide +kernel
theorem d120_35 : decode (xcode 120) 35 = .ok (.if_icmp .ge 15, 3) := by decide +kernel
theorem d120_38 : decode (xcode 120) 38 = .ok (.aload_n 0, 1) := by decide +kernel
theorem d120_39 : decode (xcode 120) 39 = .ok (.getfield 55, 3) := by decide +kernel
theorem d120_42 : decode (xcode 120) 42 = .ok (.getfield 130, 3) := by decide +kernel
theorem d120_45 : decode (xcode 120) 45 = .ok (.bipush 10, 2) := by decide +kernel
theorem d120_47 : decode (xcode 120) 47 = .ok (.if_icmp .lt 6, 3) := by decide +kernel
theorem d120_50 : decode (xcode 120) 50 = .ok (.bipush (-2), 2) := by decide +kernel
theorem d120_52 : decode (xcode 120) 52 = .ok (.ireturn, 1) := by decide +kernel
theorem d120_53 : decode (xcode 120) 53 = .ok (.iload_n 2, 1) := by decide +kernel
theorem d120_54 : decode (xcode 120) 54 = .ok (.iconst (-1), 1) := by decide +kernel
theorem d120_55 : decode (xcode 120) 55 = .ok (.if_icmp .eq 20, 3) := by decide +kernel
theorem d120_58 : decode (xcode 120) 58 = .ok (.aload_n 0, 1) := by decide +kernel
theorem d120_59 : decode (xcode 120) 59 = .ok (.getfield 55, 3) := by decide +kernel
theorem d120_62 : decode (xcode 120) 62 = .ok (.getfield 114, 3) := by decide +kernel
theorem d120_65 : decode (xcode 120) 65 = .ok (.iload_n 2, 1) := by decide +kernel
theorem d120_66 : decode (xcode 120) 66 = .ok (.invokevirtual 145, 3) := by decide +kernel
theorem d120_69 : decode (xcode 120) 69 = .ok (.ifCond .ne 6, 3) := by decide +kernel
theorem d120_72 : decode (xcode 120) 72 = .ok (.bipush (-2), 2) := by decide +kernel
theorem d120_74 : decode (xcode 120) 74 = .ok (.ireturn, 1) := by decide +kernel
theorem d120_75 : decode (xcode 120) 75 = .ok (.aload_n 0, 1) := by decide +kernel
theorem d120_76 : decode (xcode 120) 76 = .ok (.getfield 55, 3) := by decide +kernel
theorem d120_79 : decode (xcode 120) 79 = .ok (.iload_n 1, 1) := by decide +kernel
theorem d120_80 : decode (xcode 120) 80 = .ok (.iload_n 2, 1) := by decide +kernel
theorem d120_81 : decode (xcode 120) 81 = .ok (.invokevirtual 310, 3) := by decide +kernel
theorem d120_84 : decode (xcode 120) 84 = .ok (.aload_n 0, 1) := by decide +kernel
theorem d120_85 : decode (xcode 120) 85 = .ok (.getfield 55, 3) := by decide +kernel
theorem d120_88 : decode (xcode 120) 88 = .ok (.getfield 130, 3) := by decide +kernel
theorem d120_91 : decode (xcode 120) 91 = .ok (.ireturn, 1) := by decide +kernel
noncomputable def f_B_note_b75 (v1 : Int32) (v2 : Int32) (h : xH) : Option (Int32 × xH) :=
  (f_Scene_keepNote 0 v1 v2 h).bind fun h10 =>
  some ((h10.1 4 4 0, h10))
set_option maxHeartbeats 4000000 in
set_option maxRecDepth 100000 in
theorem f_B_note_b75_ok {g : xG} {l : Launch} {d : Nat} {v1 : Int32} {v2 : Int32} {h : xH} {o : (Int32 × xH)} {R : Option xV} {H' : xH} (hD : 1 ≤ d) (hf : f_B_note_b75 v1 v2 h = some o) (K0 : ∀ (a : Int32) (h1 : xH), o = (a, h1) → R = some (xi a) ∧ H' = h1) : xEv g l d 120 75 [(0, xr 11 (some 0)), (1, xi v1), (2, xi v2)] [] h R H' := by
  unfold f_B_note_b75 at hf
  refine xs_aload_n d120_75 rfl ?_
  refine xe_getc (j := 0) d120_76 ky120 fl153 fk11_6 rfl ?_
  refine xs_iload_n d120_79 rfl ?_
  refine xs_iload_n d120_80 rfl ?_
  obtain ⟨h10, hc9, hf⟩ := lk_b hf
  refine xe_callv0 (as := [xi v1, xi v2]) (st := []) (h2 := h10) (d2 := d - 1) d120_81 ky120 ml153 st25 (by decide) cn25 rfl na25 (Nat.le_of_ble_eq_true rfl) (by omega) (f_Scene_keepNote_ok (by omega) hc9) ?_
  refine xs_aload_n d120_84 rfl ?_
  refine xe_getc (j := 0) d120_85 ky120 fl153 fk11_6 rfl ?_
  refine xe_geti d120_88 ky120 fl104 fk4_4 ?_
  obtain ⟨eR, eH⟩ := K0 _ _ (Option.some.inj hf).symm
  subst eR; subst eH
  exact xs_iret d120_91 rt120
noncomputable def f_B_note_e (v1 : Int32) (v2 : Int32) (h : xH) : Option (Int32 × xH) :=
  if v1 = (-1 : Int32) then (
  xlet (xsI h 4 4 0 (0 : Int32)) fun h2 =>
  some (((0 : Int32), h2))) else (
  if (h.1 8 0 0) = (0 : Int32) then (
  some (((-2 : Int32), h))) else (
  if v1 < (0 : Int32) then (
  some (((-2 : Int32), h))) else (
  if (61 : Int32) ≤ v1 then (
  some (((-2 : Int32), h))) else (
  if (h.1 4 4 0) < (10 : Int32) then (
  if v2 = (-1 : Int32) then (
  f_B_note_b75 v1 v2 h) else (
  (f_Told_hasSorrow 0 v2 h).bind fun r11 =>
  if r11 = (0 : Int32) then (
  some (((-2 : Int32), h))) else (
  f_B_note_b75 v1 v2 h))) else (
  some (((-2 : Int32), h)))))))
set_option maxHeartbeats 4000000 in
set_option maxRecDepth 100000 in
theorem f_B_note_e_ok {g : xG} {l : Launch} {d : Nat} {v1 : Int32} {v2 : Int32} {h : xH} {o : (Int32 × xH)} {R : Option xV} {H' : xH} (hD : 1 ≤ d) (hf : f_B_note_e v1 v2 h = some o) (K0 : ∀ (a : Int32) (h1 : xH), o = (a, h1) → R = some (xi a) ∧ H' = h1) : xEv g l d 120 0 [(0, xr 11 (some 0)), (1, xi v1), (2, xi v2)] [] h R H' := by
  unfold f_B_note_e at hf
  refine xs_iload_n d120_0 rfl ?_
  refine xs_iconst (v := -1) d120_1 (by decide) ?_
  rcases lk_if hf with ⟨hc1, hf⟩ | ⟨hc1, hf⟩
  · refine xs_icmp_ne (tgt := 15) d120_2 (by decide) (fun _ => ?_) (fun hn => absurd hc1 hn)
    refine xs_aload_n d120_5 rfl ?_
    refine xe_getc (j := 0) d120_6 ky120 fl153 fk11_6 rfl ?_
    refine xs_iconst (v := 0) d120_9 (by decide) ?_
    obtain ⟨h2, eh2, hf⟩ := lk_let hf
    refine xe_puti d120_10 ky120 fl104 fk4_4 ft4_4 eh2 ?_
    refine xs_iconst (v := 0) d120_13 (by decide) ?_
    obtain ⟨eR, eH⟩ := K0 _ _ (Option.some.inj hf).symm
    subst eR; subst eH
    exact xs_iret d120_14 rt120
  · refine xs_icmp_ne (tgt := 15) d120_2 (by decide) (fun hp => absurd hp hc1) (fun _ => ?_)
    refine xs_aload_n d120_15 rfl ?_
    refine xe_getc (j := 0) d120_16 ky120 fl153 fk11_6 rfl ?_
    refine xe_getc (j := 0) d120_19 ky120 fl96 fk4_0 rfl ?_
    refine xe_geti d120_22 ky120 fl19 fk8_0 ?_
    rcases lk_if hf with ⟨hc3, hf⟩ | ⟨hc3, hf⟩
    · refine xs_if_eq (tgt := 50) d120_25 (by decide) (fun _ => ?_) (fun hn => absurd hc3 hn)
      refine xs_bipush (v := -2) d120_50 (by decide) ?_
      obtain ⟨eR, eH⟩ := K0 _ _ (Option.some.inj hf).symm
      subst eR; subst eH
      exact xs_iret d120_52 rt120
    · refine xs_if_eq (tgt := 50) d120_25 (by decide) (fun hp => absurd hp hc3) (fun _ => ?_)
      refine xs_iload_n d120_28 rfl ?_
      rcases lk_if hf with ⟨hc4, hf⟩ | ⟨hc4, hf⟩
      · refine xs_if_lt (tgt := 50) d120_29 (by decide) (fun _ => ?_) (fun hn => absurd hc4 hn)
        refine xs_bipush (v := -2) d120_50 (by decide) ?_
        obtain ⟨eR, eH⟩ := K0 _ _ (Option.some.inj hf).symm
        subst eR; subst eH
        exact xs_iret d120_52 rt120
      · refine xs_if_lt (tgt := 50) d120_29 (by decide) (fun hp => absurd hp hc4) (fun _ => ?_)
        refine xs_iload_n d120_32 rfl ?_
        refine xs_bipush (v := 61) d120_33 (by decide) ?_
        rcases lk_if hf with ⟨hc5, hf⟩ | ⟨hc5, hf⟩
        · refine xs_icmp_ge (tgt := 50) d120_35 (by decide) (fun _ => ?_) (fun hn => absurd hc5 hn)
          refine xs_bipush (v := -2) d120_50 (by decide) ?_
          obtain ⟨eR, eH⟩ := K0 _ _ (Option.some.inj hf).symm
          subst eR; subst eH
          exact xs_iret d120_52 rt120
        · refine xs_icmp_ge (tgt := 50) d120_35 (by decide) (fun hp => absurd hp hc5) (fun _ => ?_)
          refine xs_aload_n d120_38 rfl ?_
          refine xe_getc (j := 0) d120_39 ky120 fl153 fk11_6 rfl ?_
          refine xe_geti d120_42 ky120 fl104 fk4_4 ?_
          refine xs_bipush (v := 10) d120_45 (by decide) ?_
          rcases lk_if hf with ⟨hc6, hf⟩ | ⟨hc6, hf⟩
          · refine xs_icmp_lt (tgt := 53) d120_47 (by decide) (fun _ => ?_) (fun hn => absurd hc6 hn)
            refine xs_iload_n d120_53 rfl ?_
            refine xs_iconst (v := -1) d120_54 (by decide) ?_
            rcases lk_if hf with ⟨hc7, hf⟩ | ⟨hc7, hf⟩
            · refine xs_icmp_eq (tgt := 75) d120_55 (by decide) (fun _ => ?_) (fun hn => absurd hc7 hn)
              exact f_B_note_b75_ok hD hf K0
            · refine xs_icmp_eq (tgt := 75) d120_55 (by decide) (fun hp => absurd hp hc7) (fun _ => ?_)
              refine xs_aload_n d120_58 rfl ?_
              refine xe_getc (j := 0) d120_59 ky120 fl153 fk11_6 rfl ?_
              refine xe_getc (j := 0) d120_62 ky120 fl96 fk4_0 rfl ?_
              refine xs_iload_n d120_65 rfl ?_
              obtain ⟨r11, hc12, hf⟩ := lk_b hf
              refine xe_callv1 (as := [xi v2]) (st := []) (h2 := h) (d2 := d - 1) d120_66 ky120 ml58 st76 (by decide) cn76 rfl na76 (Nat.le_of_ble_eq_true rfl) (by omega) (f_Told_hasSorrow_ok (by omega) hc12) ?_
              rcases lk_if hf with ⟨hc13, hf⟩ | ⟨hc13, hf⟩
              · refine xs_if_ne (tgt := 75) d120_69 (by decide) (fun _ => ?_) (fun hn => absurd hc13 hn)
                refine xs_bipush (v := -2) d120_72 (by decide) ?_
                obtain ⟨eR, eH⟩ := K0 _ _ (Option.some.inj hf).symm
                subst eR; subst eH
                exact xs_iret d120_74 rt120
              · refine xs_if_ne (tgt := 75) d120_69 (by decide) (fun hp => absurd hp hc13) (fun _ => ?_)
                exact f_B_note_b75_ok hD hf K0
          · refine xs_icmp_lt (tgt := 53) d120_47 (by decide) (fun hp => absurd hp hc6) (fun _ => ?_)
            refine xs_bipush (v := -2) d120_50 (by decide) ?_
            obtain ⟨eR, eH⟩ := K0 _ _ (Option.some.inj hf).symm
            subst eR; subst eH
            exact xs_iret d120_52 rt120
noncomputable def f_B_note (v1 : Int32) (v2 : Int32) (h : xH) : Option (Int32 × xH) := f_B_note_e v1 v2 h
theorem f_B_note_ok {g : xG} {l : Launch} {d : Nat} {v1 : Int32} {v2 : Int32} {h : xH} {r : Int32} {h1 : xH} (hD : 1 ≤ d) (hf : f_B_note v1 v2 h = some (r, h1)) : xC g l d 120 [xr 11 (some 0), xi v1, xi v2] h (some (xi r)) h1 :=
  xC_of (by decide) (Nat.le_of_ble_eq_true rfl) (f_B_note_e_ok hD hf (fun _ _ e => by cases e; exact ⟨rfl, rfl⟩))
theorem d132_0 : decode (xcode 132) 0 = .ok (.aload_n 0, 1) := by decide +kernel
theorem d132_1 : decode (xcode 132) 1 = .ok (.getfield 77, 3) := by decide +kernel
theorem d132_4 : decode (xcode 132) 4 = .ok (.aload_n 0, 1) := by decide +kernel
theorem d132_5 : decode (xcode 132) 5 = .ok (.getfield 55, 3) := by decide +kernel
theorem d132_8 : decode (xcode 132) 8 = .ok (.getfield 114, 3) := by decide +kernel
theorem d132_11 : decode (xcode 132) 11 = .ok (.aload_n 0, 1) := by decide +kernel
theorem d132_12 : decode (xcode 132) 12 = .ok (.iload_n 1, 1) := by decide +kernel
theorem d132_13 : decode (xcode 132) 13 = .ok (.invokevirtual 344, 3) := by decide +kernel
theorem d132_16 : decode (xcode 132) 16 = .ok (.invokevirtual 352, 3) := by decide +kernel
theorem d132_19 : decode (xcode 132) 19 = .ok (.return_, 1) := by decide +kernel
noncomputable def f_B_startFromBegin_e (v1 : Int32) (h : xH) : Option xH :=
  (f_B_ruleNumbered v1 h).bind fun r1 =>
  (f_Walk_startAnew 0 (r1) h).bind fun h5 =>
  some (h5)
set_option maxHeartbeats 4000000 in
set_option maxRecDepth 100000 in
theorem f_B_startFromBegin_e_ok {g : xG} {l : Launch} {d : Nat} {v1 : Int32} {h : xH} {o : xH} {R : Option xV} {H' : xH} (hD : 3 ≤ d) (hf : f_B_startFromBegin_e v1 h = some o) (K0 : ∀ (h1 : xH), o = h1 → R = none ∧ H' = h1) : xEv g l d 132 0 [(0, xr 11 (some 0)), (1, xi v1)] [] h R H' := by
  unfold f_B_startFromBegin_e at hf
  refine xs_aload_n d132_0 rfl ?_
  refine xe_getc (j := 0) d132_1 ky132 fl157 fk11_10 rfl ?_
  refine xs_aload_n d132_4 rfl ?_
  refine xe_getc (j := 0) d132_5 ky132 fl153 fk11_6 rfl ?_
  refine xe_getc (j := 0) d132_8 ky132 fl96 fk4_0 rfl ?_
  refine xs_aload_n d132_11 rfl ?_
  refine xs_iload_n d132_12 rfl ?_
  obtain ⟨r1, hc2, hf⟩ := lk_b hf
  refine xe_callv1 (as := [xi v1]) (st := [xr 8 (some 0), xr 10 (some 0)]) (h2 := h) (d2 := d - 1) d132_13 ky132 ml68 st130 (by decide) cn130 rfl na130 (Nat.le_of_ble_eq_true rfl) (by omega) (f_B_ruleNumbered_ok (by omega) hc2) ?_
  obtain ⟨h5, hc4, hf⟩ := lk_b hf
  refine xe_callv0 (as := [xr 8 (some 0), xr 2 (r1)]) (st := []) (h2 := h5) (d2 := d - 1) d132_16 ky132 ml156 st86 (by decide) cn86 rfl na86 (Nat.le_of_ble_eq_true rfl) (by omega) (f_Walk_startAnew_ok (by omega) hc4) ?_
  obtain ⟨eR, eH⟩ := K0 _ (Option.some.inj hf).symm
  subst eR; subst eH
  exact xs_vret d132_19 rt132
noncomputable def f_B_startFromBegin (v1 : Int32) (h : xH) : Option xH := f_B_startFromBegin_e v1 h
theorem f_B_startFromBegin_ok {g : xG} {l : Launch} {d : Nat} {v1 : Int32} {h : xH} {h1 : xH} (hD : 3 ≤ d) (hf : f_B_startFromBegin v1 h = some h1) : xC g l d 132 [xr 11 (some 0), xi v1] h none h1 :=
  xC_of (by decide) (Nat.le_of_ble_eq_true rfl) (f_B_startFromBegin_e_ok hD hf (fun _ e => ⟨rfl, e⟩))
theorem d135_0 : decode (xcode 135) 0 = .ok (.aload_n 0, 1) := by decide +kernel
theorem d135_1 : decode (xcode 135) 1 = .ok (.getfield 55, 3) := by decide +kernel
theorem d135_4 : decode (xcode 135) 4 = .ok (.invokevirtual 359, 3) := by decide +kernel
theorem d135_7 : decode (xcode 135) 7 = .ok (.istore_n 1, 1) := by decide +kernel
theorem d135_8 : decode (xcode 135) 8 = .ok (.iconst 0, 1) := by decide +kernel
theorem d135_9 : decode (xcode 135) 9 = .ok (.istore_n 2, 1) := by decide +kernel
theorem d135_10 : decode (xcode 135) 10 = .ok (.iload_n 2, 1) := by decide +kernel
theorem d135_11 : decode (xcode 135) 11 = .ok (.iload_n 1, 1) := by decide +kernel
theorem d135_12 : decode (xcode 135) 12 = .ok (.if_icmp .gt 29, 3) := by decide +kernel
theorem d135_15 : decode (xcode 135) 15 = .ok (.aload_n 0, 1) := by decide +kernel
theorem d135_16 : decode (xcode 135) 16 = .ok (.getfield 55, 3) := by decide +kernel
theorem d135_19 : decode (xcode 135) 19 = .ok (.iload_n 2, 1) := by decide +kernel
theorem d135_20 : decode (xcode 135) 20 = .ok (.aload_n 0, 1) := by decide +kernel
theorem d135_21 : decode (xcode 135) 21 = .ok (.getfield 77, 3) := by decide +kernel
theorem d135_24 : decode (xcode 135) 24 = .ok (.invokevirtual 187, 3) := by decide +kernel
theorem d135_27 : decode (xcode 135) 27 = .ok (.invokevirtual 362, 3) := by decide +kernel
theorem d135_30 : decode (xcode 135) 30 = .ok (.ifCond .ne 5, 3) := by decide +kernel
theorem d135_33 : decode (xcode 135) 33 = .ok (.iconst 0, 1) := by decide +kernel
theorem d135_34 : decode (xcode 135) 34 = .ok (.ireturn, 1) := by decide +kernel
theorem d135_35 : decode (xcode 135) 35 = .ok (.iinc 2 1, 3) := by decide +kernel
theorem d135_38 : decode (xcode 135) 38 = .ok (.goto (-28), 3) := by decide +kernel
theorem d135_41 : decode (xcode 135) 41 = .ok (.iconst 1, 1) := by decide +kernel
theorem d135_42 : decode (xcode 135) 42 = .ok (.ireturn, 1) := by decide +kernel
noncomputable def f_B_allNotesAreSo_s10 (v1 : Int32) (v2 : Int32) (h : xH) : Option ((Int32 × xH) ⊕ (Int32 × xH)) :=
  if v1 < v2 then (
  some (Sum.inr (((1 : Int32), h)))) else (
  (f_Walk_goOn h).bind fun q6 =>
  (f_Scene_agrees 0 v2 q6.1 q6.2).bind fun r7 =>
  if r7 = (0 : Int32) then (
  some (Sum.inr (((0 : Int32), q6.2)))) else (
  xlet (v2 + (1 : Int32)) fun v2_10 =>
  some (Sum.inl (v2_10, q6.2))))
set_option maxHeartbeats 4000000 in
set_option maxRecDepth 100000 in
theorem f_B_allNotesAreSo_s10_ok {g : xG} {l : Launch} {d : Nat} {v1 : Int32} {v2 : Int32} {h : xH} {o : ((Int32 × xH) ⊕ (Int32 × xH))} {R : Option xV} {H' : xH} (hD : 5 ≤ d) (hf : f_B_allNotesAreSo_s10 v1 v2 h = some o) (K1 : ∀ (w2 : Int32) (h1 : xH), o = Sum.inl (w2, h1) → xEv g l d 135 10 [(0, xr 11 (some 0)), (1, xi v1), (2, xi w2)] [] h1 R H') (K0 : ∀ (a : Int32) (h1 : xH), o = Sum.inr ((a, h1)) → R = some (xi a) ∧ H' = h1) : xEv g l d 135 10 [(0, xr 11 (some 0)), (1, xi v1), (2, xi v2)] [] h R H' := by
  unfold f_B_allNotesAreSo_s10 at hf
  refine xs_iload_n d135_10 rfl ?_
  refine xs_iload_n d135_11 rfl ?_
  rcases lk_if hf with ⟨hc3, hf⟩ | ⟨hc3, hf⟩
  · refine xs_icmp_gt (tgt := 41) d135_12 (by decide) (fun _ => ?_) (fun hn => absurd hc3 hn)
    refine xs_iconst (v := 1) d135_41 (by decide) ?_
    obtain ⟨eR, eH⟩ := K0 _ _ (Option.some.inj hf).symm
    subst eR; subst eH
    exact xe_zret d135_42 (Or.inr rfl) rt135
  · refine xs_icmp_gt (tgt := 41) d135_12 (by decide) (fun hp => absurd hp hc3) (fun _ => ?_)
    refine xs_aload_n d135_15 rfl ?_
    refine xe_getc (j := 0) d135_16 ky135 fl153 fk11_6 rfl ?_
    refine xs_iload_n d135_19 rfl ?_
    refine xs_aload_n d135_20 rfl ?_
    refine xe_getc (j := 0) d135_21 ky135 fl157 fk11_10 rfl ?_
    obtain ⟨q6, hc5, hf⟩ := lk_b hf
    refine xe_callv1 (as := []) (st := [xi v2, xr 4 (some 0)]) (h2 := q6.2) (d2 := d - 1) d135_24 ky135 ml71 st87 (by decide) cn87 rfl na87 (Nat.le_of_ble_eq_true rfl) (by omega) (f_Walk_goOn_ok (by omega) hc5) ?_
    obtain ⟨r7, hc8, hf⟩ := lk_b hf
    refine xe_callv1 (as := [xi v2, xi q6.1]) (st := []) (h2 := q6.2) (d2 := d - 1) d135_27 ky135 ml161 st27 (by decide) cn27 rfl na27 (Nat.le_of_ble_eq_true rfl) (by omega) (f_Scene_agrees_ok (by omega) hc8) ?_
    rcases lk_if hf with ⟨hc9, hf⟩ | ⟨hc9, hf⟩
    · refine xs_if_ne (tgt := 35) d135_30 (by decide) (fun _ => ?_) (fun hn => absurd hc9 hn)
      refine xs_iconst (v := 0) d135_33 (by decide) ?_
      obtain ⟨eR, eH⟩ := K0 _ _ (Option.some.inj hf).symm
      subst eR; subst eH
      exact xe_zret d135_34 (Or.inl rfl) rt135
    · refine xs_if_ne (tgt := 35) d135_30 (by decide) (fun hp => absurd hp hc9) (fun _ => ?_)
      obtain ⟨v2_10, ev2_10, hf⟩ := lk_let hf
      refine xe_iinc (v := v2_10) (b := 1) (ls2 := [(0, xr 11 (some 0)), (1, xi v1), (2, xi v2_10)]) d135_35 mx135 (by decide) rfl (by decide) ev2_10 rfl ?_
      refine xs_goto (tgt := 10) d135_38 (by decide) ?_
      exact K1 _ _ (Option.some.inj hf).symm
noncomputable def f_B_allNotesAreSo_l10 (v1 : Int32) (v2 : Int32) (h : xH) : Option (Int32 × xH) :=
  whl (fun s => f_B_allNotesAreSo_s10 v1 s.1 s.2) (v2, h)
theorem f_B_allNotesAreSo_l10_ok {g : xG} {l : Launch} {d : Nat} {v1 : Int32} {v2 : Int32} {h : xH} {o : (Int32 × xH)} {R : Option xV} {H' : xH} (hD : 5 ≤ d) (hf : f_B_allNotesAreSo_l10 v1 v2 h = some o) (K0 : ∀ (a : Int32) (h1 : xH), o = (a, h1) → R = some (xi a) ∧ H' = h1) : xEv g l d 135 10 [(0, xr 11 (some 0)), (1, xi v1), (2, xi v2)] [] h R H' := by
  obtain ⟨n, hn⟩ := whl_iff.mp hf
  clear hf
  induction n generalizing v2 h with
  | zero => cases hn
  | succ n ih =>
    obtain ⟨o2, hs, hn⟩ := lk_b (show (f_B_allNotesAreSo_s10 v1 v2 h).bind (fun o => Sum.elim (itn _ n) some o) = some o from hn)
    exact f_B_allNotesAreSo_s10_ok hD hs (fun u0 u1 e => ih (by rw [e] at hn; exact hn)) (fun u0 u1 e => K0 u0 u1 (by rw [e] at hn; exact (Option.some.inj hn).symm))
noncomputable def f_B_allNotesAreSo_e (h : xH) : Option (Int32 × xH) :=
  (f_Scene_lastNoted 0 h).bind fun r1 =>
  f_B_allNotesAreSo_l10 r1 (0 : Int32) h
set_option maxHeartbeats 4000000 in
set_option maxRecDepth 100000 in
theorem f_B_allNotesAreSo_e_ok {g : xG} {l : Launch} {d : Nat} {h : xH} {o : (Int32 × xH)} {R : Option xV} {H' : xH} (hD : 5 ≤ d) (hf : f_B_allNotesAreSo_e h = some o) (K0 : ∀ (a : Int32) (h1 : xH), o = (a, h1) → R = some (xi a) ∧ H' = h1) : xEv g l d 135 0 [(0, xr 11 (some 0))] [] h R H' := by
  unfold f_B_allNotesAreSo_e at hf
  refine xs_aload_n d135_0 rfl ?_
  refine xe_getc (j := 0) d135_1 ky135 fl153 fk11_6 rfl ?_
  obtain ⟨r1, hc2, hf⟩ := lk_b hf
  refine xe_callv1 (as := []) (st := []) (h2 := h) (d2 := d - 1) d135_4 ky135 ml159 st26 (by decide) cn26 rfl na26 (Nat.le_of_ble_eq_true rfl) (by omega) (f_Scene_lastNoted_ok (by omega) hc2) ?_
  refine xe_istore_n (v := r1) (ls2 := [(0, xr 11 (some 0)), (1, xi r1)]) d135_7 mx135 (by decide) rfl rfl ?_
  refine xs_iconst (v := 0) d135_8 (by decide) ?_
  refine xe_istore_n (v := (0 : Int32)) (ls2 := [(0, xr 11 (some 0)), (1, xi r1), (2, xi (0 : Int32))]) d135_9 mx135 (by decide) rfl rfl ?_
  exact f_B_allNotesAreSo_l10_ok hD hf K0
noncomputable def f_B_allNotesAreSo (h : xH) : Option (Int32 × xH) := f_B_allNotesAreSo_e h
theorem f_B_allNotesAreSo_ok {g : xG} {l : Launch} {d : Nat} {h : xH} {r : Int32} {h1 : xH} (hD : 5 ≤ d) (hf : f_B_allNotesAreSo h = some (r, h1)) : xC g l d 135 [xr 11 (some 0)] h (some (xi r)) h1 :=
  xC_of (by decide) (Nat.le_of_ble_eq_true rfl) (f_B_allNotesAreSo_e_ok hD hf (fun _ _ e => by cases e; exact ⟨rfl, rfl⟩))
theorem d121_0 : decode (xcode 121) 0 = .ok (.iload_n 2, 1) := by decide +kernel
theorem d121_1 : decode (xcode 121) 1 = .ok (.ifCond .lt 22, 3) := by decide +kernel
theorem d121_4 : decode (xcode 121) 4 = .ok (.iload_n 2, 1) := by decide +kernel
theorem d121_5 : decode (xcode 121) 5 = .ok (.iconst 1, 1) := by decide +kernel
theorem d121_6 : decode (xcode 121) 6 = .ok (.if_icmp .gt 17, 3) := by decide +kernel
theorem d121_9 : decode (xcode 121) 9 = .ok (.aload_n 0, 1) := by decide +kernel
theorem d121_10 : decode (xcode 121) 10 = .ok (.getfield 55, 3) := by decide +kernel
theorem d121_13 : decode (xcode 121) 13 = .ok (.getfield 114, 3) := by decide +kernel
theorem d121_16 : decode (xcode 121) 16 = .ok (.iload_n 1, 1) := by decide +kernel
theorem d121_17 : decode (xcode 121) 17 = .ok (.invokevirtual 145, 3) := by decide +kernel
theorem d121_20 : decode (xcode 121) 20 = .ok (.ifCond .ne 5, 3) := by decide +kernel
theorem d121_23 : decode (xcode 121) 23 = .ok (.iconst (-1), 1) := by decide +kernel
theorem d121_24 : decode (xcode 121) 24 = .ok (.ireturn, 1) := by decide +kernel
theorem d121_25 : decode (xcode 121) 25 = .ok (.iconst 0, 1) := by decide +kernel
theorem d121_26 : decode (xcode 121) 26 = .ok (.istore_n 3, 1) := by decide +kernel
theorem d121_27 : decode (xcode 121) 27 = .ok (.bipush (-2), 2) := by decide +kernel
theorem d121_29 : decode (xcode 121) 29 = .ok (.istore 4, 2) := by decide +kernel
theorem d121_31 : decode (xcode 121) 31 = .ok (.bipush 40, 2) := by decide +kernel
theorem d121_33 : decode (xcode 121) 33 = .ok (.istore 5, 2) := by decide +kernel
theorem d121_35 : decode (xcode 121) 35 = .ok (.iload 5, 2) := by decide +kernel
theorem d121_37 : decode (xcode 121) 37 = .ok (.iconst 1, 1) := by decide +kernel
theorem d121_38 : decode (xcode 121) 38 = .ok (.if_icmp .lt 48, 3) := by decide +kernel
theorem d121_41 : decode (xcode 121) 41 = .ok (.aload_n 0, 1) := by decide +kernel
theorem d121_42 : decode (xcode 121) 42 = .ok (.aload_n 0, 1) := by decide +kernel
theorem d121_43 : decode (xcode 121) 43 = .ok (.getfield 55, 3) := by decide +kernel
theorem d121_46 : decode (xcode 121) 46 = .ok (.getfield 142, 3) := by decide +kernel
theorem d121_49 : decode (xcode 121) 49 = .ok (.invokevirtual 313, 3) := by decide +kernel
theorem d121_52 : decode (xcode 121) 52 = .ok (.aload_n 0, 1) := by decide +kernel
theorem d121_53 : decode (xcode 121) 53 = .ok (.getfield 77, 3) := by decide +kernel
theorem d121_56 : decode (xcode 121) 56 = .ok (.getfield 190, 3) := by decide +kernel
theorem d121_59 : decode (xcode 121) 59 = .ok (.getfield 151, 3) := by decide +kernel
theorem d121_62 : decode (xcode 121) 62 = .ok (.iload_n 1, 1) := by decide +kernel
theorem d121_63 : decode (xcode 121) 63 = .ok (.iload 5, 2) := by decide +kernel
theorem d121_65 : decode (xcode 121) 65 = .ok (.iastore, 1) := by decide +kernel
theorem d121_66 : decode (xcode 121) 66 = .ok (.aload_n 0, 1) := by decide +kernel
theorem d121_67 : decode (xcode 121) 67 = .ok (.invokevirtual 316, 3) := by decide +kernel
theorem d121_70 : decode (xcode 121) 70 = .ok (.ifCond .eq 10, 3) := by decide +kernel
theorem d121_73 : decode (xcode 121) 73 = .ok (.iinc 3 1, 3) := by decide +kernel
theorem d121_76 : decode (xcode 121) 76 = .ok (.iload 5, 2) := by decide +kernel
theorem d121_78 : decode (xcode 121) 78 = .ok (.istore 4, 2) := by decide +kernel
theorem d121_80 : decode (xcode 121) 80 = .ok (.iinc 5 (-1), 3) := by decide +kernel
theorem d121_83 : decode (xcode 121) 83 = .ok (.goto (-48), 3) := by decide +kernel
theorem d121_86 : decode (xcode 121) 86 = .ok (.iload_n 2, 1) := by decide +kernel
theorem d121_87 : decode (xcode 121) 87 = .ok (.ifCond .ne 7, 3) := by decide +kernel
theorem d121_90 : decode (xcode 121) 90 = .ok (.iload_n 3, 1) := by decide +kernel
theorem d121_91 : decode (xcode 121) 91 = .ok (.goto 5, 3) := by decide +kernel
theorem d121_94 : decode (xcode 121) 94 = .ok (.iload 4, 2) := by decide +kernel
theorem d121_96 : decode (xcode 121) 96 = .ok (.ireturn, 1) := by decide +kernel
noncomputable def f_B_took_b86 (v2 : Int32) (v3 : Int32) (v4 : Int32) (h : xH) : Option (Int32 × xH) :=
  if v2 = (0 : Int32) then (
  some ((v3, h))) else (
  some ((v4, h)))
set_option maxHeartbeats 4000000 in
set_option maxRecDepth 100000 in
theorem f_B_took_b86_ok {g : xG} {l : Launch} {d : Nat} {v2 : Int32} {v3 : Int32} {v4 : Int32} {h : xH} {o : (Int32 × xH)} {R : Option xV} {H' : xH} (hD : 6 ≤ d) (hf : f_B_took_b86 v2 v3 v4 h = some o) (K0 : ∀ (a : Int32) (h1 : xH), o = (a, h1) → R = some (xi a) ∧ H' = h1) : xEv g l d 121 86 [(2, xi v2), (3, xi v3), (4, xi v4)] [] h R H' := by
  unfold f_B_took_b86 at hf
  refine xs_iload_n d121_86 rfl ?_
  rcases lk_if hf with ⟨hc7, hf⟩ | ⟨hc7, hf⟩
  · refine xs_if_ne (tgt := 94) d121_87 (by decide) (fun _ => ?_) (fun hn => absurd hc7 hn)
    refine xs_iload_n d121_90 rfl ?_
    refine xs_goto (tgt := 96) d121_91 (by decide) ?_
    obtain ⟨eR, eH⟩ := K0 _ _ (Option.some.inj hf).symm
    subst eR; subst eH
    exact xs_iret d121_96 rt121
  · refine xs_if_ne (tgt := 94) d121_87 (by decide) (fun hp => absurd hp hc7) (fun _ => ?_)
    refine xs_iload d121_94 rfl ?_
    obtain ⟨eR, eH⟩ := K0 _ _ (Option.some.inj hf).symm
    subst eR; subst eH
    exact xs_iret d121_96 rt121
noncomputable def f_B_took_b80 (v1 : Int32) (v2 : Int32) (v3 : Int32) (v4 : Int32) (v5 : Int32) (h : xH) : Option ((Int32 × Int32 × Int32 × xH) ⊕ (Int32 × xH)) :=
  xlet (v5 + (-1 : Int32)) fun v5_17 =>
  some (Sum.inl (v3, v4, v5_17, h))
set_option maxHeartbeats 4000000 in
set_option maxRecDepth 100000 in
theorem f_B_took_b80_ok {g : xG} {l : Launch} {d : Nat} {v1 : Int32} {v2 : Int32} {v3 : Int32} {v4 : Int32} {v5 : Int32} {h : xH} {o : ((Int32 × Int32 × Int32 × xH) ⊕ (Int32 × xH))} {R : Option xV} {H' : xH} (hD : 6 ≤ d) (hf : f_B_took_b80 v1 v2 v3 v4 v5 h = some o) (K1 : ∀ (w3 : Int32) (w4 : Int32) (w5 : Int32) (h1 : xH), o = Sum.inl (w3, w4, w5, h1) → xEv g l d 121 35 [(0, xr 11 (some 0)), (1, xi v1), (2, xi v2), (3, xi w3), (4, xi w4), (5, xi w5)] [] h1 R H') (K0 : ∀ (a : Int32) (h1 : xH), o = Sum.inr ((a, h1)) → R = some (xi a) ∧ H' = h1) : xEv g l d 121 80 [(0, xr 11 (some 0)), (1, xi v1), (2, xi v2), (3, xi v3), (4, xi v4), (5, xi v5)] [] h R H' := by
  unfold f_B_took_b80 at hf
  obtain ⟨v5_17, ev5_17, hf⟩ := lk_let hf
  refine xe_iinc (v := v5_17) (b := -1) (ls2 := [(0, xr 11 (some 0)), (1, xi v1), (2, xi v2), (3, xi v3), (4, xi v4), (5, xi v5_17)]) d121_80 mx121 (by decide) rfl (by decide) ev5_17 rfl ?_
  refine xs_goto (tgt := 35) d121_83 (by decide) ?_
  exact K1 _ _ _ _ (Option.some.inj hf).symm
noncomputable def f_B_took_s35 (v1 : Int32) (v2 : Int32) (v3 : Int32) (v4 : Int32) (v5 : Int32) (h : xH) : Option ((Int32 × Int32 × Int32 × xH) ⊕ (Int32 × xH)) :=
  if v5 < (1 : Int32) then (
  xup (f_B_took_b86 v2 v3 v4 h)) else (
  (f_B_startFromBegin (h.1 4 2 0) h).bind fun h10 =>
  if xib v1 8 then (
  xlet (xsA h10 32 25 (upd (h10.2.2.2.1 32 25) (v1).toNatClampNeg v5)) fun h12 =>
  (f_B_allNotesAreSo h12).bind fun q15 =>
  if q15.1 = (0 : Int32) then (
  f_B_took_b80 v1 v2 v3 v4 v5 q15.2) else (
  xlet (v3 + (1 : Int32)) fun v3_18 =>
  f_B_took_b80 v1 v2 v3_18 v5 v5 q15.2)) else none)
set_option maxHeartbeats 4000000 in
set_option maxRecDepth 100000 in
theorem f_B_took_s35_ok {g : xG} {l : Launch} {d : Nat} {v1 : Int32} {v2 : Int32} {v3 : Int32} {v4 : Int32} {v5 : Int32} {h : xH} {o : ((Int32 × Int32 × Int32 × xH) ⊕ (Int32 × xH))} {R : Option xV} {H' : xH} (hD : 6 ≤ d) (hf : f_B_took_s35 v1 v2 v3 v4 v5 h = some o) (K1 : ∀ (w3 : Int32) (w4 : Int32) (w5 : Int32) (h1 : xH), o = Sum.inl (w3, w4, w5, h1) → xEv g l d 121 35 [(0, xr 11 (some 0)), (1, xi v1), (2, xi v2), (3, xi w3), (4, xi w4), (5, xi w5)] [] h1 R H') (K0 : ∀ (a : Int32) (h1 : xH), o = Sum.inr ((a, h1)) → R = some (xi a) ∧ H' = h1) : xEv g l d 121 35 [(0, xr 11 (some 0)), (1, xi v1), (2, xi v2), (3, xi v3), (4, xi v4), (5, xi v5)] [] h R H' := by
  unfold f_B_took_s35 at hf
  refine xs_iload d121_35 rfl ?_
  refine xs_iconst (v := 1) d121_37 (by decide) ?_
  rcases lk_if hf with ⟨hc6, hf⟩ | ⟨hc6, hf⟩
  · refine xs_icmp_lt (tgt := 86) d121_38 (by decide) (fun _ => ?_) (fun hn => absurd hc6 hn)
    refine xs_pick [2, 3, 4] rfl ?_
    obtain ⟨x0, hf, ex0⟩ := lk_up hf
    exact f_B_took_b86_ok hD hf (fun u0 u1 e => K0 u0 u1 (ex0.trans (congrArg Sum.inr e)))
  · refine xs_icmp_lt (tgt := 86) d121_38 (by decide) (fun hp => absurd hp hc6) (fun _ => ?_)
    refine xs_aload_n d121_41 rfl ?_
    refine xs_aload_n d121_42 rfl ?_
    refine xe_getc (j := 0) d121_43 ky121 fl153 fk11_6 rfl ?_
    refine xe_geti d121_46 ky121 fl100 fk4_2 ?_
    obtain ⟨h10, hc9, hf⟩ := lk_b hf
    refine xe_callv0 (as := [xi (h.1 4 2 0)]) (st := []) (h2 := h10) (d2 := d - 1) d121_49 ky121 ml155 st132 (by decide) cn132 rfl na132 (Nat.le_of_ble_eq_true rfl) (by omega) (f_B_startFromBegin_ok (by omega) hc9) ?_
    refine xs_aload_n d121_52 rfl ?_
    refine xe_getc (j := 0) d121_53 ky121 fl157 fk11_10 rfl ?_
    refine xe_getc (j := 25) d121_56 ky121 fl112 fk10_0 rfl ?_
    refine xe_getc (j := 25) d121_59 ky121 fl93 fk6_7 rfl ?_
    refine xs_iload_n d121_62 rfl ?_
    refine xs_iload d121_63 rfl ?_
    obtain ⟨hin11, hf⟩ := lk_g hf
    obtain ⟨h12, eh12, hf⟩ := lk_let hf
    refine xe_iast d121_65 (by decide) ak32 hin11  eh12 ?_
    refine xs_aload_n d121_66 rfl ?_
    obtain ⟨q15, hc14, hf⟩ := lk_b hf
    refine xe_callv1 (as := []) (st := []) (h2 := q15.2) (d2 := d - 1) d121_67 ky121 ml158 st135 (by decide) cn135 rfl na135 (Nat.le_of_ble_eq_true rfl) (by omega) (f_B_allNotesAreSo_ok (by omega) hc14) ?_
    rcases lk_if hf with ⟨hc16, hf⟩ | ⟨hc16, hf⟩
    · refine xs_if_eq (tgt := 80) d121_70 (by decide) (fun _ => ?_) (fun hn => absurd hc16 hn)
      exact f_B_took_b80_ok hD hf K1 K0
    · refine xs_if_eq (tgt := 80) d121_70 (by decide) (fun hp => absurd hp hc16) (fun _ => ?_)
      obtain ⟨v3_18, ev3_18, hf⟩ := lk_let hf
      refine xe_iinc (v := v3_18) (b := 1) (ls2 := [(0, xr 11 (some 0)), (1, xi v1), (2, xi v2), (3, xi v3_18), (4, xi v4), (5, xi v5)]) d121_73 mx121 (by decide) rfl (by decide) ev3_18 rfl ?_
      refine xs_iload d121_76 rfl ?_
      refine xe_istore (v := v5) (ls2 := [(0, xr 11 (some 0)), (1, xi v1), (2, xi v2), (3, xi v3_18), (4, xi v5), (5, xi v5)]) d121_78 mx121 (by decide) rfl rfl ?_
      exact f_B_took_b80_ok hD hf K1 K0
noncomputable def f_B_took_l35 (v1 : Int32) (v2 : Int32) (v3 : Int32) (v4 : Int32) (v5 : Int32) (h : xH) : Option (Int32 × xH) :=
  whl (fun s => f_B_took_s35 v1 v2 s.1 s.2.1 s.2.2.1 s.2.2.2) (v3, v4, v5, h)
theorem f_B_took_l35_ok {g : xG} {l : Launch} {d : Nat} {v1 : Int32} {v2 : Int32} {v3 : Int32} {v4 : Int32} {v5 : Int32} {h : xH} {o : (Int32 × xH)} {R : Option xV} {H' : xH} (hD : 6 ≤ d) (hf : f_B_took_l35 v1 v2 v3 v4 v5 h = some o) (K0 : ∀ (a : Int32) (h1 : xH), o = (a, h1) → R = some (xi a) ∧ H' = h1) : xEv g l d 121 35 [(0, xr 11 (some 0)), (1, xi v1), (2, xi v2), (3, xi v3), (4, xi v4), (5, xi v5)] [] h R H' := by
  obtain ⟨n, hn⟩ := whl_iff.mp hf
  clear hf
  induction n generalizing v3 v4 v5 h with
  | zero => cases hn
  | succ n ih =>
    obtain ⟨o2, hs, hn⟩ := lk_b (show (f_B_took_s35 v1 v2 v3 v4 v5 h).bind (fun o => Sum.elim (itn _ n) some o) = some o from hn)
    exact f_B_took_s35_ok hD hs (fun u0 u1 u2 u3 e => ih (by rw [e] at hn; exact hn)) (fun u0 u1 e => K0 u0 u1 (by rw [e] at hn; exact (Option.some.inj hn).symm))
noncomputable def f_B_took_e (v1 : Int32) (v2 : Int32) (h : xH) : Option (Int32 × xH) :=
  if v2 < (0 : Int32) then (
  some (((-1 : Int32), h))) else (
  if (1 : Int32) < v2 then (
  some (((-1 : Int32), h))) else (
  (f_Told_hasSorrow 0 v1 h).bind fun r3 =>
  if r3 = (0 : Int32) then (
  some (((-1 : Int32), h))) else (
  f_B_took_l35 v1 v2 (0 : Int32) (-2 : Int32) (40 : Int32) h)))
set_option maxHeartbeats 4000000 in
set_option maxRecDepth 100000 in
theorem f_B_took_e_ok {g : xG} {l : Launch} {d : Nat} {v1 : Int32} {v2 : Int32} {h : xH} {o : (Int32 × xH)} {R : Option xV} {H' : xH} (hD : 6 ≤ d) (hf : f_B_took_e v1 v2 h = some o) (K0 : ∀ (a : Int32) (h1 : xH), o = (a, h1) → R = some (xi a) ∧ H' = h1) : xEv g l d 121 0 [(0, xr 11 (some 0)), (1, xi v1), (2, xi v2)] [] h R H' := by
  unfold f_B_took_e at hf
  refine xs_iload_n d121_0 rfl ?_
  rcases lk_if hf with ⟨hc1, hf⟩ | ⟨hc1, hf⟩
  · refine xs_if_lt (tgt := 23) d121_1 (by decide) (fun _ => ?_) (fun hn => absurd hc1 hn)
    refine xs_iconst (v := -1) d121_23 (by decide) ?_
    obtain ⟨eR, eH⟩ := K0 _ _ (Option.some.inj hf).symm
    subst eR; subst eH
    exact xs_iret d121_24 rt121
  · refine xs_if_lt (tgt := 23) d121_1 (by decide) (fun hp => absurd hp hc1) (fun _ => ?_)
    refine xs_iload_n d121_4 rfl ?_
    refine xs_iconst (v := 1) d121_5 (by decide) ?_
    rcases lk_if hf with ⟨hc2, hf⟩ | ⟨hc2, hf⟩
    · refine xs_icmp_gt (tgt := 23) d121_6 (by decide) (fun _ => ?_) (fun hn => absurd hc2 hn)
      refine xs_iconst (v := -1) d121_23 (by decide) ?_
      obtain ⟨eR, eH⟩ := K0 _ _ (Option.some.inj hf).symm
      subst eR; subst eH
      exact xs_iret d121_24 rt121
    · refine xs_icmp_gt (tgt := 23) d121_6 (by decide) (fun hp => absurd hp hc2) (fun _ => ?_)
      refine xs_aload_n d121_9 rfl ?_
      refine xe_getc (j := 0) d121_10 ky121 fl153 fk11_6 rfl ?_
      refine xe_getc (j := 0) d121_13 ky121 fl96 fk4_0 rfl ?_
      refine xs_iload_n d121_16 rfl ?_
      obtain ⟨r3, hc4, hf⟩ := lk_b hf
      refine xe_callv1 (as := [xi v1]) (st := []) (h2 := h) (d2 := d - 1) d121_17 ky121 ml58 st76 (by decide) cn76 rfl na76 (Nat.le_of_ble_eq_true rfl) (by omega) (f_Told_hasSorrow_ok (by omega) hc4) ?_
      rcases lk_if hf with ⟨hc5, hf⟩ | ⟨hc5, hf⟩
      · refine xs_if_ne (tgt := 25) d121_20 (by decide) (fun _ => ?_) (fun hn => absurd hc5 hn)
        refine xs_iconst (v := -1) d121_23 (by decide) ?_
        obtain ⟨eR, eH⟩ := K0 _ _ (Option.some.inj hf).symm
        subst eR; subst eH
        exact xs_iret d121_24 rt121
      · refine xs_if_ne (tgt := 25) d121_20 (by decide) (fun hp => absurd hp hc5) (fun _ => ?_)
        refine xs_iconst (v := 0) d121_25 (by decide) ?_
        refine xe_istore_n (v := (0 : Int32)) (ls2 := [(0, xr 11 (some 0)), (1, xi v1), (2, xi v2), (3, xi (0 : Int32))]) d121_26 mx121 (by decide) rfl rfl ?_
        refine xs_bipush (v := -2) d121_27 (by decide) ?_
        refine xe_istore (v := (-2 : Int32)) (ls2 := [(0, xr 11 (some 0)), (1, xi v1), (2, xi v2), (3, xi (0 : Int32)), (4, xi (-2 : Int32))]) d121_29 mx121 (by decide) rfl rfl ?_
        refine xs_bipush (v := 40) d121_31 (by decide) ?_
        refine xe_istore (v := (40 : Int32)) (ls2 := [(0, xr 11 (some 0)), (1, xi v1), (2, xi v2), (3, xi (0 : Int32)), (4, xi (-2 : Int32)), (5, xi (40 : Int32))]) d121_33 mx121 (by decide) rfl rfl ?_
        exact f_B_took_l35_ok hD hf K0
noncomputable def f_B_took (v1 : Int32) (v2 : Int32) (h : xH) : Option (Int32 × xH) := f_B_took_e v1 v2 h
theorem f_B_took_ok {g : xG} {l : Launch} {d : Nat} {v1 : Int32} {v2 : Int32} {h : xH} {r : Int32} {h1 : xH} (hD : 6 ≤ d) (hf : f_B_took v1 v2 h = some (r, h1)) : xC g l d 121 [xr 11 (some 0), xi v1, xi v2] h (some (xi r)) h1 :=
  xC_of (by decide) (Nat.le_of_ble_eq_true rfl) (f_B_took_e_ok hD hf (fun _ _ e => by cases e; exact ⟨rfl, rfl⟩))
theorem d122_0 : decode (xcode 122) 0 = .ok (.aload_n 0, 1) := by decide +kernel
theorem d122_1 : decode (xcode 122) 1 = .ok (.getfield 55, 3) := by decide +kernel
theorem d122_4 : decode (xcode 122) 4 = .ok (.getfield 114, 3) := by decide +kernel
theorem d122_7 : decode (xcode 122) 7 = .ok (.getfield 173, 3) := by decide +kernel
theorem d122_10 : decode (xcode 122) 10 = .ok (.ifCond .eq 12, 3) := by decide +kernel
theorem d122_13 : decode (xcode 122) 13 = .ok (.iload_n 1, 1) := by decide +kernel
theorem d122_14 : decode (xcode 122) 14 = .ok (.ifCond .lt 8, 3) := by decide +kernel
theorem d122_17 : decode (xcode 122) 17 = .ok (.iload_n 1, 1) := by decide +kernel
theorem d122_18 : decode (xcode 122) 18 = .ok (.iconst 1, 1) := by decide +kernel
theorem d122_19 : decode (xcode 122) 19 = .ok (.if_icmp .le 6, 3) := by decide +kernel
theorem d122_22 : decode (xcode 122) 22 = .ok (.bipush (-3), 2) := by decide +kernel
theorem d122_24 : decode (xcode 122) 24 = .ok (.ireturn, 1) := by decide +kernel
theorem d122_25 : decode (xcode 122) 25 = .ok (.iconst 0, 1) := by decide +kernel
theorem d122_26 : decode (xcode 122) 26 = .ok (.istore_n 2, 1) := by decide +kernel
theorem d122_27 : decode (xcode 122) 27 = .ok (.bipush (-2), 2) := by decide +kernel
theorem d122_29 : decode (xcode 122) 29 = .ok (.istore_n 3, 1) := by decide +kernel
theorem d122_30 : decode (xcode 122) 30 = .ok (.aload_n 0, 1) := by decide +kernel
theorem d122_31 : decode (xcode 122) 31 = .ok (.getfield 48, 3) := by decide +kernel
theorem d122_34 : decode (xcode 122) 34 = .ok (.iconst 1, 1) := by decide +kernel
theorem d122_35 : decode (xcode 122) 35 = .ok (.isub, 1) := by decide +kernel
theorem d122_36 : decode (xcode 122) 36 = .ok (.istore 4, 2) := by decide +kernel
theorem d122_38 : decode (xcode 122) 38 = .ok (.iload 4, 2) := by decide +kernel
theorem d122_40 : decode (xcode 122) 40 = .ok (.iconst (-1), 1) := by decide +kernel
theorem d122_41 : decode (xcode 122) 41 = .ok (.if_icmp .lt 28, 3) := by decide +kernel
theorem d122_44 : decode (xcode 122) 44 = .ok (.aload_n 0, 1) := by decide +kernel
theorem d122_45 : decode (xcode 122) 45 = .ok (.iload 4, 2) := by decide +kernel
theorem d122_47 : decode (xcode 122) 47 = .ok (.invokevirtual 313, 3) := by decide +kernel
theorem d122_50 : decode (xcode 122) 50 = .ok (.aload_n 0, 1) := by decide +kernel
theorem d122_51 : decode (xcode 122) 51 = .ok (.invokevirtual 316, 3) := by decide +kernel
theorem d122_54 : decode (xcode 122) 54 = .ok (.ifCond .eq 9, 3) := by decide +kernel
theorem d122_57 : decode (xcode 122) 57 = .ok (.iinc 2 1, 3) := by decide +kernel
theorem d122_60 : decode (xcode 122) 60 = .ok (.iload 4, 2) := by decide +kernel
theorem d122_62 : decode (xcode 122) 62 = .ok (.istore_n 3, 1) := by decide +kernel
theorem d122_63 : decode (xcode 122) 63 = .ok (.iinc 4 (-1), 3) := by decide +kernel
theorem d122_66 : decode (xcode 122) 66 = .ok (.goto (-28), 3) := by decide +kernel
theorem d122_69 : decode (xcode 122) 69 = .ok (.iload_n 1, 1) := by decide +kernel
theorem d122_70 : decode (xcode 122) 70 = .ok (.ifCond .ne 7, 3) := by decide +kernel
theorem d122_73 : decode (xcode 122) 73 = .ok (.iload_n 2, 1) := by decide +kernel
theorem d122_74 : decode (xcode 122) 74 = .ok (.goto 4, 3) := by decide +kernel
theorem d122_77 : decode (xcode 122) 77 = .ok (.iload_n 3, 1) := by decide +kernel
theorem d122_78 : decode (xcode 122) 78 = .ok (.ireturn, 1) := by decide +kernel
noncomputable def f_B_ruled_b69 (v1 : Int32) (v2 : Int32) (v3 : Int32) (h : xH) : Option (Int32 × xH) :=
  if v1 = (0 : Int32) then (
  some ((v2, h))) else (
  some ((v3, h)))
set_option maxHeartbeats 4000000 in
set_option maxRecDepth 100000 in
theorem f_B_ruled_b69_ok {g : xG} {l : Launch} {d : Nat} {v1 : Int32} {v2 : Int32} {v3 : Int32} {h : xH} {o : (Int32 × xH)} {R : Option xV} {H' : xH} (hD : 6 ≤ d) (hf : f_B_ruled_b69 v1 v2 v3 h = some o) (K0 : ∀ (a : Int32) (h1 : xH), o = (a, h1) → R = some (xi a) ∧ H' = h1) : xEv g l d 122 69 [(1, xi v1), (2, xi v2), (3, xi v3)] [] h R H' := by
  unfold f_B_ruled_b69 at hf
  refine xs_iload_n d122_69 rfl ?_
  rcases lk_if hf with ⟨hc6, hf⟩ | ⟨hc6, hf⟩
  · refine xs_if_ne (tgt := 77) d122_70 (by decide) (fun _ => ?_) (fun hn => absurd hc6 hn)
    refine xs_iload_n d122_73 rfl ?_
    refine xs_goto (tgt := 78) d122_74 (by decide) ?_
    obtain ⟨eR, eH⟩ := K0 _ _ (Option.some.inj hf).symm
    subst eR; subst eH
    exact xs_iret d122_78 rt122
  · refine xs_if_ne (tgt := 77) d122_70 (by decide) (fun hp => absurd hp hc6) (fun _ => ?_)
    refine xs_iload_n d122_77 rfl ?_
    obtain ⟨eR, eH⟩ := K0 _ _ (Option.some.inj hf).symm
    subst eR; subst eH
    exact xs_iret d122_78 rt122
noncomputable def f_B_ruled_b63 (v1 : Int32) (v2 : Int32) (v3 : Int32) (v4 : Int32) (h : xH) : Option ((Int32 × Int32 × Int32 × xH) ⊕ (Int32 × xH)) :=
  xlet (v4 + (-1 : Int32)) fun v4_14 =>
  some (Sum.inl (v2, v3, v4_14, h))
set_option maxHeartbeats 4000000 in
set_option maxRecDepth 100000 in
theorem f_B_ruled_b63_ok {g : xG} {l : Launch} {d : Nat} {v1 : Int32} {v2 : Int32} {v3 : Int32} {v4 : Int32} {h : xH} {o : ((Int32 × Int32 × Int32 × xH) ⊕ (Int32 × xH))} {R : Option xV} {H' : xH} (hD : 6 ≤ d) (hf : f_B_ruled_b63 v1 v2 v3 v4 h = some o) (K1 : ∀ (w2 : Int32) (w3 : Int32) (w4 : Int32) (h1 : xH), o = Sum.inl (w2, w3, w4, h1) → xEv g l d 122 38 [(0, xr 11 (some 0)), (1, xi v1), (2, xi w2), (3, xi w3), (4, xi w4)] [] h1 R H') (K0 : ∀ (a : Int32) (h1 : xH), o = Sum.inr ((a, h1)) → R = some (xi a) ∧ H' = h1) : xEv g l d 122 63 [(0, xr 11 (some 0)), (1, xi v1), (2, xi v2), (3, xi v3), (4, xi v4)] [] h R H' := by
  unfold f_B_ruled_b63 at hf
  obtain ⟨v4_14, ev4_14, hf⟩ := lk_let hf
  refine xe_iinc (v := v4_14) (b := -1) (ls2 := [(0, xr 11 (some 0)), (1, xi v1), (2, xi v2), (3, xi v3), (4, xi v4_14)]) d122_63 mx122 (by decide) rfl (by decide) ev4_14 rfl ?_
  refine xs_goto (tgt := 38) d122_66 (by decide) ?_
  exact K1 _ _ _ _ (Option.some.inj hf).symm
noncomputable def f_B_ruled_s38 (v1 : Int32) (v2 : Int32) (v3 : Int32) (v4 : Int32) (h : xH) : Option ((Int32 × Int32 × Int32 × xH) ⊕ (Int32 × xH)) :=
  if v4 < (-1 : Int32) then (
  xup (f_B_ruled_b69 v1 v2 v3 h)) else (
  (f_B_startFromBegin v4 h).bind fun h9 =>
  (f_B_allNotesAreSo h9).bind fun q12 =>
  if q12.1 = (0 : Int32) then (
  f_B_ruled_b63 v1 v2 v3 v4 q12.2) else (
  xlet (v2 + (1 : Int32)) fun v2_15 =>
  f_B_ruled_b63 v1 v2_15 v4 v4 q12.2))
set_option maxHeartbeats 4000000 in
set_option maxRecDepth 100000 in
theorem f_B_ruled_s38_ok {g : xG} {l : Launch} {d : Nat} {v1 : Int32} {v2 : Int32} {v3 : Int32} {v4 : Int32} {h : xH} {o : ((Int32 × Int32 × Int32 × xH) ⊕ (Int32 × xH))} {R : Option xV} {H' : xH} (hD : 6 ≤ d) (hf : f_B_ruled_s38 v1 v2 v3 v4 h = some o) (K1 : ∀ (w2 : Int32) (w3 : Int32) (w4 : Int32) (h1 : xH), o = Sum.inl (w2, w3, w4, h1) → xEv g l d 122 38 [(0, xr 11 (some 0)), (1, xi v1), (2, xi w2), (3, xi w3), (4, xi w4)] [] h1 R H') (K0 : ∀ (a : Int32) (h1 : xH), o = Sum.inr ((a, h1)) → R = some (xi a) ∧ H' = h1) : xEv g l d 122 38 [(0, xr 11 (some 0)), (1, xi v1), (2, xi v2), (3, xi v3), (4, xi v4)] [] h R H' := by
  unfold f_B_ruled_s38 at hf
  refine xs_iload d122_38 rfl ?_
  refine xs_iconst (v := -1) d122_40 (by decide) ?_
  rcases lk_if hf with ⟨hc5, hf⟩ | ⟨hc5, hf⟩
  · refine xs_icmp_lt (tgt := 69) d122_41 (by decide) (fun _ => ?_) (fun hn => absurd hc5 hn)
    refine xs_pick [1, 2, 3] rfl ?_
    obtain ⟨x0, hf, ex0⟩ := lk_up hf
    exact f_B_ruled_b69_ok hD hf (fun u0 u1 e => K0 u0 u1 (ex0.trans (congrArg Sum.inr e)))
  · refine xs_icmp_lt (tgt := 69) d122_41 (by decide) (fun hp => absurd hp hc5) (fun _ => ?_)
    refine xs_aload_n d122_44 rfl ?_
    refine xs_iload d122_45 rfl ?_
    obtain ⟨h9, hc8, hf⟩ := lk_b hf
    refine xe_callv0 (as := [xi v4]) (st := []) (h2 := h9) (d2 := d - 1) d122_47 ky122 ml155 st132 (by decide) cn132 rfl na132 (Nat.le_of_ble_eq_true rfl) (by omega) (f_B_startFromBegin_ok (by omega) hc8) ?_
    refine xs_aload_n d122_50 rfl ?_
    obtain ⟨q12, hc11, hf⟩ := lk_b hf
    refine xe_callv1 (as := []) (st := []) (h2 := q12.2) (d2 := d - 1) d122_51 ky122 ml158 st135 (by decide) cn135 rfl na135 (Nat.le_of_ble_eq_true rfl) (by omega) (f_B_allNotesAreSo_ok (by omega) hc11) ?_
    rcases lk_if hf with ⟨hc13, hf⟩ | ⟨hc13, hf⟩
    · refine xs_if_eq (tgt := 63) d122_54 (by decide) (fun _ => ?_) (fun hn => absurd hc13 hn)
      exact f_B_ruled_b63_ok hD hf K1 K0
    · refine xs_if_eq (tgt := 63) d122_54 (by decide) (fun hp => absurd hp hc13) (fun _ => ?_)
      obtain ⟨v2_15, ev2_15, hf⟩ := lk_let hf
      refine xe_iinc (v := v2_15) (b := 1) (ls2 := [(0, xr 11 (some 0)), (1, xi v1), (2, xi v2_15), (3, xi v3), (4, xi v4)]) d122_57 mx122 (by decide) rfl (by decide) ev2_15 rfl ?_
      refine xs_iload d122_60 rfl ?_
      refine xe_istore_n (v := v4) (ls2 := [(0, xr 11 (some 0)), (1, xi v1), (2, xi v2_15), (3, xi v4), (4, xi v4)]) d122_62 mx122 (by decide) rfl rfl ?_
      exact f_B_ruled_b63_ok hD hf K1 K0
noncomputable def f_B_ruled_l38 (v1 : Int32) (v2 : Int32) (v3 : Int32) (v4 : Int32) (h : xH) : Option (Int32 × xH) :=
  whl (fun s => f_B_ruled_s38 v1 s.1 s.2.1 s.2.2.1 s.2.2.2) (v2, v3, v4, h)
theorem f_B_ruled_l38_ok {g : xG} {l : Launch} {d : Nat} {v1 : Int32} {v2 : Int32} {v3 : Int32} {v4 : Int32} {h : xH} {o : (Int32 × xH)} {R : Option xV} {H' : xH} (hD : 6 ≤ d) (hf : f_B_ruled_l38 v1 v2 v3 v4 h = some o) (K0 : ∀ (a : Int32) (h1 : xH), o = (a, h1) → R = some (xi a) ∧ H' = h1) : xEv g l d 122 38 [(0, xr 11 (some 0)), (1, xi v1), (2, xi v2), (3, xi v3), (4, xi v4)] [] h R H' := by
  obtain ⟨n, hn⟩ := whl_iff.mp hf
  clear hf
  induction n generalizing v2 v3 v4 h with
  | zero => cases hn
  | succ n ih =>
    obtain ⟨o2, hs, hn⟩ := lk_b (show (f_B_ruled_s38 v1 v2 v3 v4 h).bind (fun o => Sum.elim (itn _ n) some o) = some o from hn)
    exact f_B_ruled_s38_ok hD hs (fun u0 u1 u2 u3 e => ih (by rw [e] at hn; exact hn)) (fun u0 u1 e => K0 u0 u1 (by rw [e] at hn; exact (Option.some.inj hn).symm))
noncomputable def f_B_ruled_e (v1 : Int32) (h : xH) : Option (Int32 × xH) :=
  if (h.1 8 0 0) = (0 : Int32) then (
  some (((-3 : Int32), h))) else (
  if v1 < (0 : Int32) then (
  some (((-3 : Int32), h))) else (
  if v1 ≤ (1 : Int32) then (
  xlet ((h.1 11 5 0) - (1 : Int32)) fun v4_4 =>
  f_B_ruled_l38 v1 (0 : Int32) (-2 : Int32) v4_4 h) else (
  some (((-3 : Int32), h)))))
set_option maxHeartbeats 4000000 in
set_option maxRecDepth 100000 in
theorem f_B_ruled_e_ok {g : xG} {l : Launch} {d : Nat} {v1 : Int32} {h : xH} {o : (Int32 × xH)} {R : Option xV} {H' : xH} (hD : 6 ≤ d) (hf : f_B_ruled_e v1 h = some o) (K0 : ∀ (a : Int32) (h1 : xH), o = (a, h1) → R = some (xi a) ∧ H' = h1) : xEv g l d 122 0 [(0, xr 11 (some 0)), (1, xi v1)] [] h R H' := by
  unfold f_B_ruled_e at hf
  refine xs_aload_n d122_0 rfl ?_
  refine xe_getc (j := 0) d122_1 ky122 fl153 fk11_6 rfl ?_
  refine xe_getc (j := 0) d122_4 ky122 fl96 fk4_0 rfl ?_
  refine xe_geti d122_7 ky122 fl19 fk8_0 ?_
  rcases lk_if hf with ⟨hc1, hf⟩ | ⟨hc1, hf⟩
  · refine xs_if_eq (tgt := 22) d122_10 (by decide) (fun _ => ?_) (fun hn => absurd hc1 hn)
    refine xs_bipush (v := -3) d122_22 (by decide) ?_
    obtain ⟨eR, eH⟩ := K0 _ _ (Option.some.inj hf).symm
    subst eR; subst eH
    exact xs_iret d122_24 rt122
  · refine xs_if_eq (tgt := 22) d122_10 (by decide) (fun hp => absurd hp hc1) (fun _ => ?_)
    refine xs_iload_n d122_13 rfl ?_
    rcases lk_if hf with ⟨hc2, hf⟩ | ⟨hc2, hf⟩
    · refine xs_if_lt (tgt := 22) d122_14 (by decide) (fun _ => ?_) (fun hn => absurd hc2 hn)
      refine xs_bipush (v := -3) d122_22 (by decide) ?_
      obtain ⟨eR, eH⟩ := K0 _ _ (Option.some.inj hf).symm
      subst eR; subst eH
      exact xs_iret d122_24 rt122
    · refine xs_if_lt (tgt := 22) d122_14 (by decide) (fun hp => absurd hp hc2) (fun _ => ?_)
      refine xs_iload_n d122_17 rfl ?_
      refine xs_iconst (v := 1) d122_18 (by decide) ?_
      rcases lk_if hf with ⟨hc3, hf⟩ | ⟨hc3, hf⟩
      · refine xs_icmp_le (tgt := 25) d122_19 (by decide) (fun _ => ?_) (fun hn => absurd hc3 hn)
        refine xs_iconst (v := 0) d122_25 (by decide) ?_
        refine xe_istore_n (v := (0 : Int32)) (ls2 := [(0, xr 11 (some 0)), (1, xi v1), (2, xi (0 : Int32))]) d122_26 mx122 (by decide) rfl rfl ?_
        refine xs_bipush (v := -2) d122_27 (by decide) ?_
        refine xe_istore_n (v := (-2 : Int32)) (ls2 := [(0, xr 11 (some 0)), (1, xi v1), (2, xi (0 : Int32)), (3, xi (-2 : Int32))]) d122_29 mx122 (by decide) rfl rfl ?_
        refine xs_aload_n d122_30 rfl ?_
        refine xe_geti d122_31 ky122 fl152 fk11_5 ?_
        refine xs_iconst (v := 1) d122_34 (by decide) ?_
        refine xs_isub d122_35 ?_
        obtain ⟨v4_4, ev4_4, hf⟩ := lk_let hf
        refine xe_istore (v := v4_4) (ls2 := [(0, xr 11 (some 0)), (1, xi v1), (2, xi (0 : Int32)), (3, xi (-2 : Int32)), (4, xi v4_4)]) d122_36 mx122 (by decide) ev4_4 rfl ?_
        exact f_B_ruled_l38_ok hD hf K0
      · refine xs_icmp_le (tgt := 25) d122_19 (by decide) (fun hp => absurd hp hc3) (fun _ => ?_)
        refine xs_bipush (v := -3) d122_22 (by decide) ?_
        obtain ⟨eR, eH⟩ := K0 _ _ (Option.some.inj hf).symm
        subst eR; subst eH
        exact xs_iret d122_24 rt122
noncomputable def f_B_ruled (v1 : Int32) (h : xH) : Option (Int32 × xH) := f_B_ruled_e v1 h
theorem f_B_ruled_ok {g : xG} {l : Launch} {d : Nat} {v1 : Int32} {h : xH} {r : Int32} {h1 : xH} (hD : 6 ≤ d) (hf : f_B_ruled v1 h = some (r, h1)) : xC g l d 122 [xr 11 (some 0), xi v1] h (some (xi r)) h1 :=
  xC_of (by decide) (Nat.le_of_ble_eq_true rfl) (f_B_ruled_e_ok hD hf (fun _ _ e => by cases e; exact ⟨rfl, rfl⟩))
theorem d138_0 : decode (xcode 138) 0 = .ok (.iconst 0, 1) := by decide +kernel
theorem d138_1 : decode (xcode 138) 1 = .ok (.istore_n 3, 1) := by decide +kernel
theorem d138_2 : decode (xcode 138) 2 = .ok (.iconst 0, 1) := by decide +kernel
theorem d138_3 : decode (xcode 138) 3 = .ok (.istore 4, 2) := by decide +kernel
theorem d138_5 : decode (xcode 138) 5 = .ok (.iload 4, 2) := by decide +kernel
theorem d138_7 : decode (xcode 138) 7 = .ok (.iload_n 1, 1) := by decide +kernel
theorem d138_8 : decode (xcode 138) 8 = .ok (.if_icmp .ge 78, 3) := by decide +kernel
theorem d138_11 : decode (xcode 138) 11 = .ok (.iload 4, 2) := by decide +kernel
theorem d138_13 : decode (xcode 138) 13 = .ok (.bipush 6, 2) := by decide +kernel
theorem d138_15 : decode (xcode 138) 15 = .ok (.if_icmp .gt 71, 3) := by decide +kernel
theorem d138_18 : decode (xcode 138) 18 = .ok (.iconst 0, 1) := by decide +kernel
theorem d138_19 : decode (xcode 138) 19 = .ok (.istore 5, 2) := by decide +kernel
theorem d138_21 : decode (xcode 138) 21 = .ok (.iconst 0, 1) := by decide +kernel
theorem d138_22 : decode (xcode 138) 22 = .ok (.istore 6, 2) := by decide +kernel
theorem d138_24 : decode (xcode 138) 24 = .ok (.iload 6, 2) := by decide +kernel
theorem d138_26 : decode (xcode 138) 26 = .ok (.iload_n 1, 1) := by decide +kernel
theorem d138_27 : decode (xcode 138) 27 = .ok (.if_icmp .ge 46, 3) := by decide +kernel
theorem d138_30 : decode (xcode 138) 30 = .ok (.iload 6, 2) := by decide +kernel
theorem d138_32 : decode (xcode 138) 32 = .ok (.bipush 6, 2) := by decide +kernel
theorem d138_34 : decode (xcode 138) 34 = .ok (.if_icmp .gt 39, 3) := by decide +kernel
theorem d138_37 : decode (xcode 138) 37 = .ok (.aload_n 0, 1) := by decide +kernel
theorem d138_38 : decode (xcode 138) 38 = .ok (.getfield 95, 3) := by decide +kernel
theorem d138_41 : decode (xcode 138) 41 = .ok (.iload 4, 2) := by decide +kernel
theorem d138_43 : decode (xcode 138) 43 = .ok (.bipush 61, 2) := by decide +kernel
theorem d138_45 : decode (xcode 138) 45 = .ok (.imul, 1) := by decide +kernel
theorem d138_46 : decode (xcode 138) 46 = .ok (.iload_n 2, 1) := by decide +kernel
theorem d138_47 : decode (xcode 138) 47 = .ok (.iadd, 1) := by decide +kernel
theorem d138_48 : decode (xcode 138) 48 = .ok (.iaload, 1) := by decide +kernel
theorem d138_49 : decode (xcode 138) 49 = .ok (.aload_n 0, 1) := by decide +kernel
theorem d138_50 : decode (xcode 138) 50 = .ok (.getfield 95, 3) := by decide +kernel
theorem d138_53 : decode (xcode 138) 53 = .ok (.iload 6, 2) := by decide +kernel
theorem d138_55 : decode (xcode 138) 55 = .ok (.bipush 61, 2) := by decide +kernel
theorem d138_57 : decode (xcode 138) 57 = .ok (.imul, 1) := by decide +kernel
theorem d138_58 : decode (xcode 138) 58 = .ok (.iload_n 2, 1) := by decide +kernel
theorem d138_59 : decode (xcode 138) 59 = .ok (.iadd, 1) := by decide +kernel
theorem d138_60 : decode (xcode 138) 60 = .ok (.iaload, 1) := by decide +kernel
theorem d138_61 : decode (xcode 138) 61 = .ok (.if_icmp .ne 6, 3) := by decide +kernel
theorem d138_64 : decode (xcode 138) 64 = .ok (.iinc 5 1, 3) := by decide +kernel
theorem d138_67 : decode (xcode 138) 67 = .ok (.iinc 6 1, 3) := by decide +kernel
theorem d138_70 : decode (xcode 138) 70 = .ok (.goto (-46), 3) := by decide +kernel
theorem d138_73 : decode (xcode 138) 73 = .ok (.iload_n 3, 1) := by decide +kernel
theorem d138_74 : decode (xcode 138) 74 = .ok (.iload 5, 2) := by decide +kernel
theorem d138_76 : decode (xcode 138) 76 = .ok (.invokestatic 365, 3) := by decide +kernel
theorem d138_79 : decode (xcode 138) 79 = .ok (.istore_n 3, 1) := by decide +kernel
theorem d138_80 : decode (xcode 138) 80 = .ok (.iinc 4 1, 3) := by decide +kernel
theorem d138_83 : decode (xcode 138) 83 = .ok (.goto (-78), 3) := by decide +kernel
theorem d138_86 : decode (xcode 138) 86 = .ok (.iload_n 3, 1) := by decide +kernel
theorem d138_87 : decode (xcode 138) 87 = .ok (.ireturn, 1) := by decide +kernel
noncomputable def f_B_mostAlike_b73 (v1 : Int32) (v2 : Int32) (v3 : Int32) (v4 : Int32) (v5 : Int32) (h : xH) : Option ((Int32 × Int32) ⊕ Int32) :=
  (f_Math_max v3 v5 h).bind fun r4 =>
  xlet (v4 + (1 : Int32)) fun v4_6 =>
  some (Sum.inl (r4, v4_6))
set_option maxHeartbeats 4000000 in
set_option maxRecDepth 100000 in
theorem f_B_mostAlike_b73_ok {g : xG} {l : Launch} {d : Nat} {v1 : Int32} {v2 : Int32} {v3 : Int32} {v4 : Int32} {v5 : Int32} {h : xH} {o : ((Int32 × Int32) ⊕ Int32)} {R : Option xV} (hD : 1 ≤ d) (hf : f_B_mostAlike_b73 v1 v2 v3 v4 v5 h = some o) (K1 : ∀ (w3 : Int32) (w4 : Int32), o = Sum.inl (w3, w4) → xEv g l d 138 5 [(0, xr 11 (some 0)), (1, xi v1), (2, xi v2), (3, xi w3), (4, xi w4)] [] h R h) (K0 : ∀ (a : Int32), o = Sum.inr (a) → R = some (xi a)) : xEv g l d 138 73 [(0, xr 11 (some 0)), (1, xi v1), (2, xi v2), (3, xi v3), (4, xi v4), (5, xi v5)] [] h R h := by
  unfold f_B_mostAlike_b73 at hf
  refine xs_iload_n d138_73 rfl ?_
  refine xs_iload d138_74 rfl ?_
  obtain ⟨r4, hc5, hf⟩ := lk_b hf
  refine xe_calls1 (as := [xi v3, xi v5]) (st := []) (h2 := h) (d2 := d - 1) d138_76 ky138 ml167 st256 rfl na256 (Nat.le_of_ble_eq_true rfl) (by omega) (f_Math_max_ok (by omega) hc5) ?_
  refine xe_istore_n (v := r4) (ls2 := [(0, xr 11 (some 0)), (1, xi v1), (2, xi v2), (3, xi r4), (4, xi v4), (5, xi v5)]) d138_79 mx138 (by decide) rfl rfl ?_
  obtain ⟨v4_6, ev4_6, hf⟩ := lk_let hf
  refine xe_iinc (v := v4_6) (b := 1) (ls2 := [(0, xr 11 (some 0)), (1, xi v1), (2, xi v2), (3, xi r4), (4, xi v4_6), (5, xi v5)]) d138_80 mx138 (by decide) rfl (by decide) ev4_6 rfl ?_
  refine xs_goto (tgt := 5) d138_83 (by decide) ?_
  refine xs_pick [0, 1, 2, 3, 4] rfl ?_
  exact K1 _ _ (Option.some.inj hf).symm
noncomputable def f_B_mostAlike_b67 (v1 : Int32) (v2 : Int32) (v3 : Int32) (v4 : Int32) (v5 : Int32) (v6 : Int32) (h : xH) : Option ((Int32 × Int32) ⊕ ((Int32 × Int32) ⊕ Int32)) :=
  xlet (v6 + (1 : Int32)) fun v6_12 =>
  some (Sum.inl (v5, v6_12))
set_option maxHeartbeats 4000000 in
set_option maxRecDepth 100000 in
theorem f_B_mostAlike_b67_ok {g : xG} {l : Launch} {d : Nat} {v1 : Int32} {v2 : Int32} {v3 : Int32} {v4 : Int32} {v5 : Int32} {v6 : Int32} {h : xH} {o : ((Int32 × Int32) ⊕ ((Int32 × Int32) ⊕ Int32))} {R : Option xV} (hD : 1 ≤ d) (hf : f_B_mostAlike_b67 v1 v2 v3 v4 v5 v6 h = some o) (K1 : ∀ (w3 : Int32) (w4 : Int32), o = Sum.inr (Sum.inl (w3, w4)) → xEv g l d 138 5 [(0, xr 11 (some 0)), (1, xi v1), (2, xi v2), (3, xi w3), (4, xi w4)] [] h R h) (K2 : ∀ (w5 : Int32) (w6 : Int32), o = Sum.inl (w5, w6) → xEv g l d 138 24 [(0, xr 11 (some 0)), (1, xi v1), (2, xi v2), (3, xi v3), (4, xi v4), (5, xi w5), (6, xi w6)] [] h R h) (K0 : ∀ (a : Int32), o = Sum.inr (Sum.inr (a)) → R = some (xi a)) : xEv g l d 138 67 [(0, xr 11 (some 0)), (1, xi v1), (2, xi v2), (3, xi v3), (4, xi v4), (5, xi v5), (6, xi v6)] [] h R h := by
  unfold f_B_mostAlike_b67 at hf
  obtain ⟨v6_12, ev6_12, hf⟩ := lk_let hf
  refine xe_iinc (v := v6_12) (b := 1) (ls2 := [(0, xr 11 (some 0)), (1, xi v1), (2, xi v2), (3, xi v3), (4, xi v4), (5, xi v5), (6, xi v6_12)]) d138_67 mx138 (by decide) rfl (by decide) ev6_12 rfl ?_
  refine xs_goto (tgt := 24) d138_70 (by decide) ?_
  exact K2 _ _ (Option.some.inj hf).symm
noncomputable def f_B_mostAlike_s24 (v1 : Int32) (v2 : Int32) (v3 : Int32) (v4 : Int32) (v5 : Int32) (v6 : Int32) (h : xH) : Option ((Int32 × Int32) ⊕ ((Int32 × Int32) ⊕ Int32)) :=
  if v1 ≤ v6 then (
  xup (f_B_mostAlike_b73 v1 v2 v3 v4 v5 h)) else (
  if (6 : Int32) < v6 then (
  xup (f_B_mostAlike_b73 v1 v2 v3 v4 v5 h)) else (
  if xib ((v4 * (61 : Int32)) + v2) 427 then (
  if xib ((v6 * (61 : Int32)) + v2) 427 then (
  if (h.2.2.2.1 46 0 ((v4 * (61 : Int32)) + v2).toNatClampNeg) = (h.2.2.2.1 46 0 ((v6 * (61 : Int32)) + v2).toNatClampNeg) then (
  xlet (v5 + (1 : Int32)) fun v5_11 =>
  f_B_mostAlike_b67 v1 v2 v3 v4 v5_11 v6 h) else (
  f_B_mostAlike_b67 v1 v2 v3 v4 v5 v6 h)) else none) else none))
set_option maxHeartbeats 4000000 in
set_option maxRecDepth 100000 in
theorem f_B_mostAlike_s24_ok {g : xG} {l : Launch} {d : Nat} {v1 : Int32} {v2 : Int32} {v3 : Int32} {v4 : Int32} {v5 : Int32} {v6 : Int32} {h : xH} {o : ((Int32 × Int32) ⊕ ((Int32 × Int32) ⊕ Int32))} {R : Option xV} (hD : 1 ≤ d) (hf : f_B_mostAlike_s24 v1 v2 v3 v4 v5 v6 h = some o) (K1 : ∀ (w3 : Int32) (w4 : Int32), o = Sum.inr (Sum.inl (w3, w4)) → xEv g l d 138 5 [(0, xr 11 (some 0)), (1, xi v1), (2, xi v2), (3, xi w3), (4, xi w4)] [] h R h) (K2 : ∀ (w5 : Int32) (w6 : Int32), o = Sum.inl (w5, w6) → xEv g l d 138 24 [(0, xr 11 (some 0)), (1, xi v1), (2, xi v2), (3, xi v3), (4, xi v4), (5, xi w5), (6, xi w6)] [] h R h) (K0 : ∀ (a : Int32), o = Sum.inr (Sum.inr (a)) → R = some (xi a)) : xEv g l d 138 24 [(0, xr 11 (some 0)), (1, xi v1), (2, xi v2), (3, xi v3), (4, xi v4), (5, xi v5), (6, xi v6)] [] h R h := by
  unfold f_B_mostAlike_s24 at hf
  refine xs_iload d138_24 rfl ?_
  refine xs_iload_n d138_26 rfl ?_
  rcases lk_if hf with ⟨hc3, hf⟩ | ⟨hc3, hf⟩
  · refine xs_icmp_ge (tgt := 73) d138_27 (by decide) (fun _ => ?_) (fun hn => absurd hc3 hn)
    refine xs_pick [0, 1, 2, 3, 4, 5] rfl ?_
    obtain ⟨x0, hf, ex0⟩ := lk_up hf
    exact f_B_mostAlike_b73_ok hD hf (fun u0 u1 e => K1 u0 u1 (ex0.trans (congrArg Sum.inr e))) (fun u0 e => K0 u0 (ex0.trans (congrArg Sum.inr e)))
  · refine xs_icmp_ge (tgt := 73) d138_27 (by decide) (fun hp => absurd hp hc3) (fun _ => ?_)
    refine xs_iload d138_30 rfl ?_
    refine xs_bipush (v := 6) d138_32 (by decide) ?_
    rcases lk_if hf with ⟨hc7, hf⟩ | ⟨hc7, hf⟩
    · refine xs_icmp_gt (tgt := 73) d138_34 (by decide) (fun _ => ?_) (fun hn => absurd hc7 hn)
      refine xs_pick [0, 1, 2, 3, 4, 5] rfl ?_
      obtain ⟨x0, hf, ex0⟩ := lk_up hf
      exact f_B_mostAlike_b73_ok hD hf (fun u0 u1 e => K1 u0 u1 (ex0.trans (congrArg Sum.inr e))) (fun u0 e => K0 u0 (ex0.trans (congrArg Sum.inr e)))
    · refine xs_icmp_gt (tgt := 73) d138_34 (by decide) (fun hp => absurd hp hc7) (fun _ => ?_)
      refine xs_aload_n d138_37 rfl ?_
      refine xe_getc (j := 0) d138_38 ky138 fl160 fk11_13 rfl ?_
      refine xs_iload d138_41 rfl ?_
      refine xs_bipush (v := 61) d138_43 (by decide) ?_
      refine xs_imul d138_45 ?_
      refine xs_iload_n d138_46 rfl ?_
      refine xs_iadd d138_47 ?_
      obtain ⟨hin8, hf⟩ := lk_g hf
      refine xe_iald d138_48 (by decide) ak46 hin8 ?_
      refine xs_aload_n d138_49 rfl ?_
      refine xe_getc (j := 0) d138_50 ky138 fl160 fk11_13 rfl ?_
      refine xs_iload d138_53 rfl ?_
      refine xs_bipush (v := 61) d138_55 (by decide) ?_
      refine xs_imul d138_57 ?_
      refine xs_iload_n d138_58 rfl ?_
      refine xs_iadd d138_59 ?_
      obtain ⟨hin9, hf⟩ := lk_g hf
      refine xe_iald d138_60 (by decide) ak46 hin9 ?_
      rcases lk_if hf with ⟨hc10, hf⟩ | ⟨hc10, hf⟩
      · refine xs_icmp_ne (tgt := 67) d138_61 (by decide) (fun _ => ?_) (fun hn => absurd hc10 hn)
        obtain ⟨v5_11, ev5_11, hf⟩ := lk_let hf
        refine xe_iinc (v := v5_11) (b := 1) (ls2 := [(0, xr 11 (some 0)), (1, xi v1), (2, xi v2), (3, xi v3), (4, xi v4), (5, xi v5_11), (6, xi v6)]) d138_64 mx138 (by decide) rfl (by decide) ev5_11 rfl ?_
        exact f_B_mostAlike_b67_ok hD hf K1 K2 K0
      · refine xs_icmp_ne (tgt := 67) d138_61 (by decide) (fun hp => absurd hp hc10) (fun _ => ?_)
        exact f_B_mostAlike_b67_ok hD hf K1 K2 K0
noncomputable def f_B_mostAlike_l24 (v1 : Int32) (v2 : Int32) (v3 : Int32) (v4 : Int32) (v5 : Int32) (v6 : Int32) (h : xH) : Option ((Int32 × Int32) ⊕ Int32) :=
  whl (fun s => f_B_mostAlike_s24 v1 v2 v3 v4 s.1 s.2 h) (v5, v6)
theorem f_B_mostAlike_l24_ok {g : xG} {l : Launch} {d : Nat} {v1 : Int32} {v2 : Int32} {v3 : Int32} {v4 : Int32} {v5 : Int32} {v6 : Int32} {h : xH} {o : ((Int32 × Int32) ⊕ Int32)} {R : Option xV} (hD : 1 ≤ d) (hf : f_B_mostAlike_l24 v1 v2 v3 v4 v5 v6 h = some o) (K1 : ∀ (w3 : Int32) (w4 : Int32), o = Sum.inl (w3, w4) → xEv g l d 138 5 [(0, xr 11 (some 0)), (1, xi v1), (2, xi v2), (3, xi w3), (4, xi w4)] [] h R h) (K0 : ∀ (a : Int32), o = Sum.inr (a) → R = some (xi a)) : xEv g l d 138 24 [(0, xr 11 (some 0)), (1, xi v1), (2, xi v2), (3, xi v3), (4, xi v4), (5, xi v5), (6, xi v6)] [] h R h := by
  obtain ⟨n, hn⟩ := whl_iff.mp hf
  clear hf
  induction n generalizing v5 v6 with
  | zero => cases hn
  | succ n ih =>
    obtain ⟨o2, hs, hn⟩ := lk_b (show (f_B_mostAlike_s24 v1 v2 v3 v4 v5 v6 h).bind (fun o => Sum.elim (itn _ n) some o) = some o from hn)
    exact f_B_mostAlike_s24_ok hD hs (fun u0 u1 e => K1 u0 u1 (by rw [e] at hn; exact (Option.some.inj hn).symm)) (fun u0 u1 e => ih (by rw [e] at hn; exact hn)) (fun u0 e => K0 u0 (by rw [e] at hn; exact (Option.some.inj hn).symm))
noncomputable def f_B_mostAlike_s5 (v1 : Int32) (v2 : Int32) (v3 : Int32) (v4 : Int32) (h : xH) : Option ((Int32 × Int32) ⊕ Int32) :=
  if v1 ≤ v4 then (
  some (Sum.inr (v3))) else (
  if (6 : Int32) < v4 then (
  some (Sum.inr (v3))) else (
  f_B_mostAlike_l24 v1 v2 v3 v4 (0 : Int32) (0 : Int32) h))
set_option maxHeartbeats 4000000 in
set_option maxRecDepth 100000 in
theorem f_B_mostAlike_s5_ok {g : xG} {l : Launch} {d : Nat} {v1 : Int32} {v2 : Int32} {v3 : Int32} {v4 : Int32} {h : xH} {o : ((Int32 × Int32) ⊕ Int32)} {R : Option xV} (hD : 1 ≤ d) (hf : f_B_mostAlike_s5 v1 v2 v3 v4 h = some o) (K1 : ∀ (w3 : Int32) (w4 : Int32), o = Sum.inl (w3, w4) → xEv g l d 138 5 [(0, xr 11 (some 0)), (1, xi v1), (2, xi v2), (3, xi w3), (4, xi w4)] [] h R h) (K0 : ∀ (a : Int32), o = Sum.inr (a) → R = some (xi a)) : xEv g l d 138 5 [(0, xr 11 (some 0)), (1, xi v1), (2, xi v2), (3, xi v3), (4, xi v4)] [] h R h := by
  unfold f_B_mostAlike_s5 at hf
  refine xs_iload d138_5 rfl ?_
  refine xs_iload_n d138_7 rfl ?_
  rcases lk_if hf with ⟨hc1, hf⟩ | ⟨hc1, hf⟩
  · refine xs_icmp_ge (tgt := 86) d138_8 (by decide) (fun _ => ?_) (fun hn => absurd hc1 hn)
    refine xs_iload_n d138_86 rfl ?_
    obtain eR := K0 _ (Option.some.inj hf).symm
    subst eR
    exact xs_iret d138_87 rt138
  · refine xs_icmp_ge (tgt := 86) d138_8 (by decide) (fun hp => absurd hp hc1) (fun _ => ?_)
    refine xs_iload d138_11 rfl ?_
    refine xs_bipush (v := 6) d138_13 (by decide) ?_
    rcases lk_if hf with ⟨hc2, hf⟩ | ⟨hc2, hf⟩
    · refine xs_icmp_gt (tgt := 86) d138_15 (by decide) (fun _ => ?_) (fun hn => absurd hc2 hn)
      refine xs_iload_n d138_86 rfl ?_
      obtain eR := K0 _ (Option.some.inj hf).symm
      subst eR
      exact xs_iret d138_87 rt138
    · refine xs_icmp_gt (tgt := 86) d138_15 (by decide) (fun hp => absurd hp hc2) (fun _ => ?_)
      refine xs_iconst (v := 0) d138_18 (by decide) ?_
      refine xe_istore (v := (0 : Int32)) (ls2 := [(0, xr 11 (some 0)), (1, xi v1), (2, xi v2), (3, xi v3), (4, xi v4), (5, xi (0 : Int32))]) d138_19 mx138 (by decide) rfl rfl ?_
      refine xs_iconst (v := 0) d138_21 (by decide) ?_
      refine xe_istore (v := (0 : Int32)) (ls2 := [(0, xr 11 (some 0)), (1, xi v1), (2, xi v2), (3, xi v3), (4, xi v4), (5, xi (0 : Int32)), (6, xi (0 : Int32))]) d138_22 mx138 (by decide) rfl rfl ?_
      exact f_B_mostAlike_l24_ok hD hf K1 K0
noncomputable def f_B_mostAlike_l5 (v1 : Int32) (v2 : Int32) (v3 : Int32) (v4 : Int32) (h : xH) : Option Int32 :=
  whl (fun s => f_B_mostAlike_s5 v1 v2 s.1 s.2 h) (v3, v4)
theorem f_B_mostAlike_l5_ok {g : xG} {l : Launch} {d : Nat} {v1 : Int32} {v2 : Int32} {v3 : Int32} {v4 : Int32} {h : xH} {o : Int32} {R : Option xV} (hD : 1 ≤ d) (hf : f_B_mostAlike_l5 v1 v2 v3 v4 h = some o) (K0 : ∀ (a : Int32), o = a → R = some (xi a)) : xEv g l d 138 5 [(0, xr 11 (some 0)), (1, xi v1), (2, xi v2), (3, xi v3), (4, xi v4)] [] h R h := by
  obtain ⟨n, hn⟩ := whl_iff.mp hf
  clear hf
  induction n generalizing v3 v4 with
  | zero => cases hn
  | succ n ih =>
    obtain ⟨o2, hs, hn⟩ := lk_b (show (f_B_mostAlike_s5 v1 v2 v3 v4 h).bind (fun o => Sum.elim (itn _ n) some o) = some o from hn)
    exact f_B_mostAlike_s5_ok hD hs (fun u0 u1 e => ih (by rw [e] at hn; exact hn)) (fun u0 e => K0 u0 (by rw [e] at hn; exact (Option.some.inj hn).symm))
noncomputable def f_B_mostAlike_e (v1 : Int32) (v2 : Int32) (h : xH) : Option Int32 :=
  f_B_mostAlike_l5 v1 v2 (0 : Int32) (0 : Int32) h
set_option maxHeartbeats 4000000 in
set_option maxRecDepth 100000 in
theorem f_B_mostAlike_e_ok {g : xG} {l : Launch} {d : Nat} {v1 : Int32} {v2 : Int32} {h : xH} {o : Int32} {R : Option xV} (hD : 1 ≤ d) (hf : f_B_mostAlike_e v1 v2 h = some o) (K0 : ∀ (a : Int32), o = a → R = some (xi a)) : xEv g l d 138 0 [(0, xr 11 (some 0)), (1, xi v1), (2, xi v2)] [] h R h := by
  unfold f_B_mostAlike_e at hf
  refine xs_iconst (v := 0) d138_0 (by decide) ?_
  refine xe_istore_n (v := (0 : Int32)) (ls2 := [(0, xr 11 (some 0)), (1, xi v1), (2, xi v2), (3, xi (0 : Int32))]) d138_1 mx138 (by decide) rfl rfl ?_
  refine xs_iconst (v := 0) d138_2 (by decide) ?_
  refine xe_istore (v := (0 : Int32)) (ls2 := [(0, xr 11 (some 0)), (1, xi v1), (2, xi v2), (3, xi (0 : Int32)), (4, xi (0 : Int32))]) d138_3 mx138 (by decide) rfl rfl ?_
  exact f_B_mostAlike_l5_ok hD hf K0
noncomputable def f_B_mostAlike (v1 : Int32) (v2 : Int32) (h : xH) : Option Int32 := f_B_mostAlike_e v1 v2 h
theorem f_B_mostAlike_ok {g : xG} {l : Launch} {d : Nat} {v1 : Int32} {v2 : Int32} {h : xH} {r : Int32} (hD : 1 ≤ d) (hf : f_B_mostAlike v1 v2 h = some r) : xC g l d 138 [xr 11 (some 0), xi v1, xi v2] h (some (xi r)) h :=
  xC_of (by decide) (Nat.le_of_ble_eq_true rfl) (f_B_mostAlike_e_ok hD hf (fun _ e => by rw [e]))
theorem d137_0 : decode (xcode 137) 0 = .ok (.iconst 0, 1) := by decide +kernel
theorem d137_1 : decode (xcode 137) 1 = .ok (.istore_n 2, 1) := by decide +kernel
theorem d137_2 : decode (xcode 137) 2 = .ok (.iload_n 1, 1) := by decide +kernel
theorem d137_3 : decode (xcode 137) 3 = .ok (.iconst 1, 1) := by decide +kernel
theorem d137_4 : decode (xcode 137) 4 = .ok (.iadd, 1) := by decide +kernel
theorem d137_5 : decode (xcode 137) 5 = .ok (.istore_n 3, 1) := by decide +kernel
theorem d137_6 : decode (xcode 137) 6 = .ok (.iconst 0, 1) := by decide +kernel
theorem d137_7 : decode (xcode 137) 7 = .ok (.istore 4, 2) := by decide +kernel
theorem d137_9 : decode (xcode 137) 9 = .ok (.iload 4, 2) := by decide +kernel
theorem d137_11 : decode (xcode 137) 11 = .ok (.bipush 61, 2) := by decide +kernel
theorem d137_13 : decode (xcode 137) 13 = .ok (.if_icmp .ge 30, 3) := by decide +kernel
theorem d137_16 : decode (xcode 137) 16 = .ok (.aload_n 0, 1) := by decide +kernel
theorem d137_17 : decode (xcode 137) 17 = .ok (.iload_n 1, 1) := by decide +kernel
theorem d137_18 : decode (xcode 137) 18 = .ok (.iload 4, 2) := by decide +kernel
theorem d137_20 : decode (xcode 137) 20 = .ok (.invokevirtual 326, 3) := by decide +kernel
theorem d137_23 : decode (xcode 137) 23 = .ok (.istore 5, 2) := by decide +kernel
theorem d137_25 : decode (xcode 137) 25 = .ok (.iload 5, 2) := by decide +kernel
theorem d137_27 : decode (xcode 137) 27 = .ok (.iload_n 3, 1) := by decide +kernel
theorem d137_28 : decode (xcode 137) 28 = .ok (.if_icmp .ge 9, 3) := by decide +kernel
theorem d137_31 : decode (xcode 137) 31 = .ok (.iload 5, 2) := by decide +kernel
theorem d137_33 : decode (xcode 137) 33 = .ok (.istore_n 3, 1) := by decide +kernel
theorem d137_34 : decode (xcode 137) 34 = .ok (.iload 4, 2) := by decide +kernel
theorem d137_36 : decode (xcode 137) 36 = .ok (.istore_n 2, 1) := by decide +kernel
theorem d137_37 : decode (xcode 137) 37 = .ok (.iinc 4 1, 3) := by decide +kernel
theorem d137_40 : decode (xcode 137) 40 = .ok (.goto (-31), 3) := by decide +kernel
theorem d137_43 : decode (xcode 137) 43 = .ok (.iload_n 2, 1) := by decide +kernel
theorem d137_44 : decode (xcode 137) 44 = .ok (.ireturn, 1) := by decide +kernel
noncomputable def f_B_bestStepToLook_b37 (v1 : Int32) (v2 : Int32) (v3 : Int32) (v4 : Int32) (h : xH) : Option ((Int32 × Int32 × Int32) ⊕ Int32) :=
  xlet (v4 + (1 : Int32)) fun v4_6 =>
  some (Sum.inl (v2, v3, v4_6))
set_option maxHeartbeats 4000000 in
set_option maxRecDepth 100000 in
theorem f_B_bestStepToLook_b37_ok {g : xG} {l : Launch} {d : Nat} {v1 : Int32} {v2 : Int32} {v3 : Int32} {v4 : Int32} {h : xH} {o : ((Int32 × Int32 × Int32) ⊕ Int32)} {R : Option xV} (hD : 2 ≤ d) (hf : f_B_bestStepToLook_b37 v1 v2 v3 v4 h = some o) (K1 : ∀ (w2 : Int32) (w3 : Int32) (w4 : Int32), o = Sum.inl (w2, w3, w4) → xEv g l d 137 9 [(0, xr 11 (some 0)), (1, xi v1), (2, xi w2), (3, xi w3), (4, xi w4)] [] h R h) (K0 : ∀ (a : Int32), o = Sum.inr (a) → R = some (xi a)) : xEv g l d 137 37 [(0, xr 11 (some 0)), (1, xi v1), (2, xi v2), (3, xi v3), (4, xi v4)] [] h R h := by
  unfold f_B_bestStepToLook_b37 at hf
  obtain ⟨v4_6, ev4_6, hf⟩ := lk_let hf
  refine xe_iinc (v := v4_6) (b := 1) (ls2 := [(0, xr 11 (some 0)), (1, xi v1), (2, xi v2), (3, xi v3), (4, xi v4_6)]) d137_37 mx137 (by decide) rfl (by decide) ev4_6 rfl ?_
  refine xs_goto (tgt := 9) d137_40 (by decide) ?_
  exact K1 _ _ _ (Option.some.inj hf).symm
noncomputable def f_B_bestStepToLook_s9 (v1 : Int32) (v2 : Int32) (v3 : Int32) (v4 : Int32) (h : xH) : Option ((Int32 × Int32 × Int32) ⊕ Int32) :=
  if (61 : Int32) ≤ v4 then (
  some (Sum.inr (v2))) else (
  (f_B_mostAlike v1 v4 h).bind fun r3 =>
  if v3 ≤ r3 then (
  f_B_bestStepToLook_b37 v1 v2 v3 v4 h) else (
  f_B_bestStepToLook_b37 v1 v4 r3 v4 h))
set_option maxHeartbeats 4000000 in
set_option maxRecDepth 100000 in
theorem f_B_bestStepToLook_s9_ok {g : xG} {l : Launch} {d : Nat} {v1 : Int32} {v2 : Int32} {v3 : Int32} {v4 : Int32} {h : xH} {o : ((Int32 × Int32 × Int32) ⊕ Int32)} {R : Option xV} (hD : 2 ≤ d) (hf : f_B_bestStepToLook_s9 v1 v2 v3 v4 h = some o) (K1 : ∀ (w2 : Int32) (w3 : Int32) (w4 : Int32), o = Sum.inl (w2, w3, w4) → xEv g l d 137 9 [(0, xr 11 (some 0)), (1, xi v1), (2, xi w2), (3, xi w3), (4, xi w4)] [] h R h) (K0 : ∀ (a : Int32), o = Sum.inr (a) → R = some (xi a)) : xEv g l d 137 9 [(0, xr 11 (some 0)), (1, xi v1), (2, xi v2), (3, xi v3), (4, xi v4)] [] h R h := by
  unfold f_B_bestStepToLook_s9 at hf
  refine xs_iload d137_9 rfl ?_
  refine xs_bipush (v := 61) d137_11 (by decide) ?_
  rcases lk_if hf with ⟨hc2, hf⟩ | ⟨hc2, hf⟩
  · refine xs_icmp_ge (tgt := 43) d137_13 (by decide) (fun _ => ?_) (fun hn => absurd hc2 hn)
    refine xs_iload_n d137_43 rfl ?_
    obtain eR := K0 _ (Option.some.inj hf).symm
    subst eR
    exact xs_iret d137_44 rt137
  · refine xs_icmp_ge (tgt := 43) d137_13 (by decide) (fun hp => absurd hp hc2) (fun _ => ?_)
    refine xs_aload_n d137_16 rfl ?_
    refine xs_iload_n d137_17 rfl ?_
    refine xs_iload d137_18 rfl ?_
    obtain ⟨r3, hc4, hf⟩ := lk_b hf
    refine xe_callv1 (as := [xi v1, xi v4]) (st := []) (h2 := h) (d2 := d - 1) d137_20 ky137 ml166 st138 (by decide) cn138 rfl na138 (Nat.le_of_ble_eq_true rfl) (by omega) (f_B_mostAlike_ok (by omega) hc4) ?_
    refine xe_istore (v := r3) (ls2 := [(0, xr 11 (some 0)), (1, xi v1), (2, xi v2), (3, xi v3), (4, xi v4), (5, xi r3)]) d137_23 mx137 (by decide) rfl rfl ?_
    refine xs_iload d137_25 rfl ?_
    refine xs_iload_n d137_27 rfl ?_
    rcases lk_if hf with ⟨hc5, hf⟩ | ⟨hc5, hf⟩
    · refine xs_icmp_ge (tgt := 37) d137_28 (by decide) (fun _ => ?_) (fun hn => absurd hc5 hn)
      refine xs_pick [0, 1, 2, 3, 4] rfl ?_
      exact f_B_bestStepToLook_b37_ok hD hf K1 K0
    · refine xs_icmp_ge (tgt := 37) d137_28 (by decide) (fun hp => absurd hp hc5) (fun _ => ?_)
      refine xs_iload d137_31 rfl ?_
      refine xe_istore_n (v := r3) (ls2 := [(0, xr 11 (some 0)), (1, xi v1), (2, xi v2), (3, xi r3), (4, xi v4), (5, xi r3)]) d137_33 mx137 (by decide) rfl rfl ?_
      refine xs_iload d137_34 rfl ?_
      refine xe_istore_n (v := v4) (ls2 := [(0, xr 11 (some 0)), (1, xi v1), (2, xi v4), (3, xi r3), (4, xi v4), (5, xi r3)]) d137_36 mx137 (by decide) rfl rfl ?_
      refine xs_pick [0, 1, 2, 3, 4] rfl ?_
      exact f_B_bestStepToLook_b37_ok hD hf K1 K0
noncomputable def f_B_bestStepToLook_l9 (v1 : Int32) (v2 : Int32) (v3 : Int32) (v4 : Int32) (h : xH) : Option Int32 :=
  whl (fun s => f_B_bestStepToLook_s9 v1 s.1 s.2.1 s.2.2 h) (v2, v3, v4)
theorem f_B_bestStepToLook_l9_ok {g : xG} {l : Launch} {d : Nat} {v1 : Int32} {v2 : Int32} {v3 : Int32} {v4 : Int32} {h : xH} {o : Int32} {R : Option xV} (hD : 2 ≤ d) (hf : f_B_bestStepToLook_l9 v1 v2 v3 v4 h = some o) (K0 : ∀ (a : Int32), o = a → R = some (xi a)) : xEv g l d 137 9 [(0, xr 11 (some 0)), (1, xi v1), (2, xi v2), (3, xi v3), (4, xi v4)] [] h R h := by
  obtain ⟨n, hn⟩ := whl_iff.mp hf
  clear hf
  induction n generalizing v2 v3 v4 with
  | zero => cases hn
  | succ n ih =>
    obtain ⟨o2, hs, hn⟩ := lk_b (show (f_B_bestStepToLook_s9 v1 v2 v3 v4 h).bind (fun o => Sum.elim (itn _ n) some o) = some o from hn)
    exact f_B_bestStepToLook_s9_ok hD hs (fun u0 u1 u2 e => ih (by rw [e] at hn; exact hn)) (fun u0 e => K0 u0 (by rw [e] at hn; exact (Option.some.inj hn).symm))
noncomputable def f_B_bestStepToLook_e (v1 : Int32) (h : xH) : Option Int32 :=
  xlet (v1 + (1 : Int32)) fun v3_1 =>
  f_B_bestStepToLook_l9 v1 (0 : Int32) v3_1 (0 : Int32) h
set_option maxHeartbeats 4000000 in
set_option maxRecDepth 100000 in
theorem f_B_bestStepToLook_e_ok {g : xG} {l : Launch} {d : Nat} {v1 : Int32} {h : xH} {o : Int32} {R : Option xV} (hD : 2 ≤ d) (hf : f_B_bestStepToLook_e v1 h = some o) (K0 : ∀ (a : Int32), o = a → R = some (xi a)) : xEv g l d 137 0 [(0, xr 11 (some 0)), (1, xi v1)] [] h R h := by
  unfold f_B_bestStepToLook_e at hf
  refine xs_iconst (v := 0) d137_0 (by decide) ?_
  refine xe_istore_n (v := (0 : Int32)) (ls2 := [(0, xr 11 (some 0)), (1, xi v1), (2, xi (0 : Int32))]) d137_1 mx137 (by decide) rfl rfl ?_
  refine xs_iload_n d137_2 rfl ?_
  refine xs_iconst (v := 1) d137_3 (by decide) ?_
  refine xs_iadd d137_4 ?_
  obtain ⟨v3_1, ev3_1, hf⟩ := lk_let hf
  refine xe_istore_n (v := v3_1) (ls2 := [(0, xr 11 (some 0)), (1, xi v1), (2, xi (0 : Int32)), (3, xi v3_1)]) d137_5 mx137 (by decide) ev3_1 rfl ?_
  refine xs_iconst (v := 0) d137_6 (by decide) ?_
  refine xe_istore (v := (0 : Int32)) (ls2 := [(0, xr 11 (some 0)), (1, xi v1), (2, xi (0 : Int32)), (3, xi v3_1), (4, xi (0 : Int32))]) d137_7 mx137 (by decide) rfl rfl ?_
  exact f_B_bestStepToLook_l9_ok hD hf K0
noncomputable def f_B_bestStepToLook (v1 : Int32) (h : xH) : Option Int32 := f_B_bestStepToLook_e v1 h
theorem f_B_bestStepToLook_ok {g : xG} {l : Launch} {d : Nat} {v1 : Int32} {h : xH} {r : Int32} (hD : 2 ≤ d) (hf : f_B_bestStepToLook v1 h = some r) : xC g l d 137 [xr 11 (some 0), xi v1] h (some (xi r)) h :=
  xC_of (by decide) (Nat.le_of_ble_eq_true rfl) (f_B_bestStepToLook_e_ok hD hf (fun _ e => by rw [e]))
