/-! PURE: lay -/
variable {Q : xH → Nat → Prop}
theorem p_lay (hQ : qOk Q) : lI_lay (jII Q) := by
  rintro a b h ⟨R, hR, r1, r2, hj, hq⟩
  have keep : jII Q h := ⟨R, hR, r1, r2, hj, hq⟩
  obtain ⟨ht, hf, him, n, m, c, hsc, u, x, u20, x20, u1, u2, u3, up⟩ := id hj
  obtain ⟨hv, hto, hst, -, -⟩ := id hsc
  obtain ⟨v0, -, -, -, v3, n8, -, -, v10, v11, vk, -⟩ := id hv
  obtain ⟨g1, e1, s1, pa, hk⟩ := c_keep (V := mS h) (pa := paV h) n8 hst ⟨u20, x20, u1, u3, fun j hj => (up j hj).2⟩
  have hn : mN h n := ⟨v3, n8⟩
  have cl : f_B_lay a b h = (if a = b then some (-1, h) else (f_State_isIn 0 a h).bind (fun r2 => if r2 = 0 then some (-1, h) else (f_State_isIn 0 b h).bind (fun r5 => if r5 = 0 then some (-1, h) else (f_Past_keep 0 h).bind (fun h10 => if xib a 8 then (if xib a 8 then (if xib a 8 then some ((((xsA h10 30 0 (upd (h10.2.2.2.1 30 0) a.toNatClampNeg (h10.2.2.2.1 30 0 a.toNatClampNeg ^^^ ((1 : Int32) <<< (b &&& 31))))).2.2.2.1 30 0 a.toNatClampNeg) >>> (b &&& 31)) &&& 1, xsA h10 30 0 (upd (h10.2.2.2.1 30 0) a.toNatClampNeg (h10.2.2.2.1 30 0 a.toNatClampNeg ^^^ ((1 : Int32) <<< (b &&& 31))))) else none) else none) else none)))) := rfl
  have rf : ∀ h1 : xH, f_M_lay a b h1 = (f_M_isInside_i a h1).bind (fun r1 => if r1 = 0 then some (-1, h1) else (f_M_isInside_i b h1).bind (fun r4 => if r4 = 0 then some (-1, h1) else if a = b then some (-1, h1) else (f_M_keepsAct h1).bind (fun h10 => if xib (36 + a) 101 then (if xib (36 + a) 101 then (if xib (36 + a) 101 then some ((((xsA h10 56 0 (upd (mS h10) ((36 : Int32) + a).toNatClampNeg (mS h10 ((36 : Int32) + a).toNatClampNeg ^^^ ((1 : Int32) <<< (b &&& 31))))).2.2.2.1 56 0 ((36 : Int32) + a).toNatClampNeg) >>> (b &&& 31)) &&& 1, xsA h10 56 0 (upd (mS h10) ((36 : Int32) + a).toNatClampNeg (mS h10 ((36 : Int32) + a).toNatClampNeg ^^^ ((1 : Int32) <<< (b &&& 31))))) else none) else none) else none))) := fun _ => rfl
  obtain ⟨d, i1, i2, i3⟩ := in_both hn hst a
  obtain ⟨d', k1, k2, k3⟩ := in_both hn hst b
  by_cases ab : a = b
  · refine ⟨-1, h, h, by rw [cl, if_pos ab], ?_, keep⟩
    rw [rf, i1]
    cases d
    · rfl
    · show (f_M_isInside_i b h).bind _ = _
      rw [k1]
      cases d'
      · rfl
      · show (if a = b then _ else _) = _
        rw [if_pos ab]
  cases hd : d
  · subst hd
    exact ⟨-1, h, h, by rw [cl, if_neg ab, i2]; rfl, by rw [rf, i1]; rfl, keep⟩
  subst hd
  cases hd' : d'
  · subst hd'
    refine ⟨-1, h, h, ?_, ?_, keep⟩
    · rw [cl, if_neg ab, i2]
      show (f_State_isIn 0 b h).bind _ = _
      rw [k2]
      rfl
    · rw [rf, i1]
      show (f_M_isInside_i b h).bind _ = _
      rw [k1]
      rfl
  subst hd'
  obtain ⟨j, hj, rfl, hi⟩ := i3 rfl
  obtain ⟨l, hl, rfl, hil⟩ := k3 rfl
  have e30 : h.2.2.2.1 30 0 j = mS h (36 + j) := (hst.2.2.2.2 j hj).2.1
  have g30 : g1.2.2.2.1 30 0 j = mS h (36 + j) := (s1.2.2.2.2 j hj).2.1
  have x8 : xib (nI j) 8 := xibN (by omega) (by decide)
  have xk : xib ((36 : Int32) + nI j) 101 := xibA (c := 36) (a := 36) rfl (by omega) (by decide)
  have ck : ((36 : Int32) + nI j).toNatClampNeg = 36 + j := ixA (c := 36) (a := 36) rfl (by omega)
  have cj : (nI j).toNatClampNeg = j := nI_clamp (by omega)
  obtain ⟨B, hB, eB⟩ := (vk j hj).2.2.2.1
  have p8 : 2 ^ n ≤ 2 ^ 8 := Nat.pow_le_pow_right (by decide) n8
  have hw : mS h (36 + j) ^^^ ((1 : Int32) <<< (nI l &&& 31)) = nI (B ^^^ 2 ^ l) := by rw [eB, sb_xor B (by omega) l (by omega)]
  have hB' : B ^^^ 2 ^ l < 2 ^ n := Nat.xor_lt_two_pow hB (Nat.pow_lt_pow_right (by decide) hl)
  have hwz : ∃ z, z < 2 ^ n ∧ nI (B ^^^ 2 ^ l) = nI z := ⟨_, hB', rfl⟩
  generalize nI (B ^^^ 2 ^ l) = w at hw hwz
  have hV : ∀ t, t ≠ 36 + j → upd (mS h) (36 + j) w t = mS h t := fun t ht => pk_un ht
  have s2 : stR (xsA g1 30 0 (upd (g1.2.2.2.1 30 0) j w)) 0 (upd (mS h) (36 + j) w) n := by
    obtain ⟨c1, c2, c3, c4, c5⟩ := s1
    refine ⟨by rw [hV 10 (by omega)]; exact c1, by rw [hV 11 (by omega)]; exact c2, ?_, ?_, fun k hk => ?_⟩
    · refine Eq.trans c3 ?_
      exact congrArg nI (bs_congr (fun k hk => by unfold vIn; rw [hV (12 + k) (by omega)]))
    · refine Eq.trans c4 ?_
      exact congrArg nI (bs_congr (fun k hk => by unfold vLb; rw [hV (12 + k) (by omega)]))
    · obtain ⟨d1, d2, d3, d4⟩ := c5 k hk
      rw [rdA_n (by omega), rdA_s, rdA_n (by omega), rdA_n (by omega), hV (20 + k) (by omega), hV (28 + k) (by omega), hV (44 + k) (by omega)]
      refine ⟨d1, ?_, d3, d4⟩
      by_cases kj : k = j
      · subst kj
        rw [pk_us, pk_us]
      · rw [pk_un kj, hV (36 + k) (by omega)]
        exact d2
  have hv' : vOk (upd (mS h) (36 + j) w) n m c := by
    refine vOk_of (fun t ht => hV t (by omega)) (by rw [hV 10 (by omega)]; exact v10) (by rw [hV 11 (by omega)]; exact v11) (fun k hk => ?_) hv
    obtain ⟨d1, d2, d3, d4, -⟩ := vk k hk
    rw [hV (12 + k) (by omega), hV (20 + k) (by omega), hV (28 + k) (by omega)]
    refine ⟨d1, d2, d3, ?_⟩
    by_cases kj : k = j
    · subst kj
      rw [pk_us]
      exact hwz
    · rw [hV (36 + k) (by omega)]
      exact d4
  obtain ⟨eS, g2, e2, eS2, fin⟩ := act_all hQ hR r1 r2 hq ht hf him hsc u20 x20 u2 (fun j hj => (up j hj).1) hk pa (h1 := xsA g1 30 0 (upd (g1.2.2.2.1 30 0) j w)) (fun c k i hn => rfl) (fun f i hn => rdA_n (by omega)) s2 (fun t ht => hV t (by omega)) hv'
  have em : mS (xsA g2 56 0 (upd (mS g2) (36 + j) w)) = upd (mS h) (36 + j) w := by
    rw [← eS2]
    exact rdA_s
  refine ⟨(w >>> (nI l &&& 31)) &&& 1, xsA g1 30 0 (upd (g1.2.2.2.1 30 0) j w), xsA g2 56 0 (upd (mS g2) (36 + j) w), ?_, ?_, fin _ rfl (fun f i hn => rdA_n (by omega)) em⟩
  · rw [cl, if_neg ab, i2]
    show (f_State_isIn 0 (nI l) h).bind _ = _
    rw [k2]
    show (f_Past_keep 0 h).bind _ = _
    rw [e1]
    show (if xib (nI j) 8 then _ else _) = _
    rw [if_pos x8, if_pos x8, if_pos x8, cj, g30, hw, rdA_s, pk_us]
  · rw [rf, in_at eS hn hj hi]
    show (f_M_isInside_i (nI l) _).bind _ = _
    rw [in_at eS hn hl hil]
    show (if nI j = nI l then _ else _) = _
    rw [if_neg ab, e2]
    show (if xib ((36 : Int32) + nI j) 101 then _ else _) = _
    rw [if_pos xk, if_pos xk, if_pos xk, ck, eS2, hw, rdA_s, pk_us]
