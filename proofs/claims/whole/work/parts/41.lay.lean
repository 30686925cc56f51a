/-! PURE: lay, lighten -/
theorem sb_xor : ∀ B, B < 256 → ∀ k, k < 8 → nI B ^^^ ((1 : Int32) <<< (nI k &&& 31)) = nI (B ^^^ 2 ^ k) := by decide +kernel
theorem in_both {h : xH} {n : Nat} (hn : mN h n) (hs : stR h 0 (mS h) n) (v : Int32) : ∃ b : Bool, f_M_isInside_i v h = some (if b then 1 else 0) ∧ f_State_isIn 0 v h = some (if b then 1 else 0) ∧ (b = true → ∃ j, j < n ∧ v = nI j ∧ mIn h j = true) := by
  have h8 := hn.2
  have out : (v < 0 ∨ nI n ≤ v) → ∃ b : Bool, f_M_isInside_i v h = some (if b then 1 else 0) ∧ f_State_isIn 0 v h = some (if b then 1 else 0) ∧ (b = true → ∃ j, j < n ∧ v = nI j ∧ mIn h j = true) := fun hk => ⟨false, m_isInside_out hn hk, c_isIn_out hs h8 hk, fun z => by cases z⟩
  rcases pk_ix v (n := n) (by omega) with q | q | ⟨j, hj, rfl⟩
  · exact out (Or.inl q)
  · exact out (Or.inr q)
  · exact ⟨mIn h j, m_isInside_in hn hj, c_isIn_in hs h8 hj, fun z => ⟨j, hj, rfl, z⟩⟩
theorem in_at {h h1 : xH} {n j : Nat} (eS : mS h1 = mS h) (hn : mN h n) (hj : j < n) (hi : mIn h j = true) : f_M_isInside_i (nI j) h1 = some 1 := by
  have hn1 : mN h1 n := ⟨by rw [eS]; exact hn.1, hn.2⟩
  rw [m_isInside_in hn1 hj]
  have : mIn h1 j = true := by
    unfold mIn at hi ⊢
    rw [eS]
    exact hi
  rw [this]
  rfl
variable {Q : xH → Nat → Prop}
/-- lighten -/
theorem p_lighten (hQ : qOk Q) : lI_lighten (jII Q) := by
  rintro a b h ⟨R, hR, r1, r2, hj, hq⟩
  have keep : jII Q h := ⟨R, hR, r1, r2, hj, hq⟩
  obtain ⟨ht, hf, him, n, m, c, hsc, u, x, u20, x20, u1, u2, u3, up⟩ := id hj
  obtain ⟨hv, hto, hst, -, -⟩ := id hsc
  obtain ⟨v0, -, -, -, v3, n8, -, -, v10, v11, vk, -⟩ := id hv
  obtain ⟨g1, e1, s1, pa, hk⟩ := c_keep (V := mS h) (pa := paV h) n8 hst ⟨u20, x20, u1, u3, fun j hj => (up j hj).2⟩
  have hn : mN h n := ⟨v3, n8⟩
  have cl : f_B_lighten a b h = (if b < 1 then some (-1, h) else if 20 < b then some (-1, h) else (f_State_isIn 0 a h).bind (fun r3 => if r3 = 0 then some (-1, h) else if xib a 8 then (if h.2.2.2.1 31 0 a.toNatClampNeg = b then some (-1, h) else (f_Past_keep 0 h).bind (fun h11 => if xib a 8 then some (h.2.2.2.1 31 0 a.toNatClampNeg, xsA h11 31 0 (upd (h11.2.2.2.1 31 0) a.toNatClampNeg b)) else none)) else none)) := rfl
  have rf : ∀ h1 : xH, f_M_lighten a b h1 = (f_M_isInside_i a h1).bind (fun r1 => if r1 = 0 then some (-1, h1) else (f_M_in b.toInt64 1 20 h1).bind (fun r4 => if r4 = 0 then some (-1, h1) else if xib (28 + a) 101 then (if mS h1 ((28 : Int32) + a).toNatClampNeg = b then some (-1, h1) else (f_M_keepsAct h1).bind (fun h11 => if xib (28 + a) 101 then (if xib (28 + a) 101 then some (mS h11 ((28 : Int32) + a).toNatClampNeg, xsA h11 56 0 (upd (mS h11) ((28 : Int32) + a).toNatClampNeg b)) else none) else none)) else none)) := fun _ => rfl
  obtain ⟨d, i1, i2, i3⟩ := in_both hn hst a
  have bad : (b < 1 ∨ 20 < b) → f_M_lighten a b h = some (-1, h) := by
    intro q
    rw [rf, i1]
    cases d
    · rfl
    · show (f_M_in b.toInt64 1 20 h).bind _ = _
      rw [m_in b 1 20 (by decide) (by decide), if_pos q]
      rfl
  by_cases b1 : b < 1
  · exact ⟨-1, h, h, by rw [cl, if_pos b1], bad (Or.inl b1), keep⟩
  by_cases b20 : 20 < b
  · exact ⟨-1, h, h, by rw [cl, if_neg b1, if_pos b20], bad (Or.inr b20), keep⟩
  have nb : ¬ (b < 1 ∨ 20 < b) := fun z => z.elim b1 b20
  cases hd : d
  · subst hd
    exact ⟨-1, h, h, by rw [cl, if_neg b1, if_neg b20, i2]; rfl, by rw [rf, i1]; rfl, keep⟩
  subst hd
  obtain ⟨j, hj, rfl, hi⟩ := i3 rfl
  have e31 : h.2.2.2.1 31 0 j = mS h (28 + j) := (hst.2.2.2.2 j hj).2.2.1
  have x8 : xib (nI j) 8 := xibN (by omega) (by decide)
  have xk : xib ((28 : Int32) + nI j) 101 := xibA (c := 28) (a := 28) rfl (by omega) (by decide)
  have ck : ((28 : Int32) + nI j).toNatClampNeg = 28 + j := ixA (c := 28) (a := 28) rfl (by omega)
  have cj : (nI j).toNatClampNeg = j := nI_clamp (by omega)
  by_cases eb : mS h (28 + j) = b
  · refine ⟨-1, h, h, ?_, ?_, keep⟩
    · rw [cl, if_neg b1, if_neg b20, i2]
      show (if xib (nI j) 8 then _ else _) = _
      rw [if_pos x8, if_pos (show h.2.2.2.1 31 0 (nI j).toNatClampNeg = b by rw [cj, e31]; exact eb)]
    · rw [rf, i1]
      show (f_M_in b.toInt64 1 20 h).bind _ = _
      rw [m_in b 1 20 (by decide) (by decide), if_neg nb]
      show (if xib ((28 : Int32) + nI j) 101 then _ else _) = _
      rw [if_pos xk, if_pos (show mS h ((28 : Int32) + nI j).toNatClampNeg = b by rw [ck]; exact eb)]
  · have hV : ∀ t, t ≠ 28 + j → upd (mS h) (28 + j) b t = mS h t := fun t ht => pk_un ht
    have s2 : stR (xsA g1 31 0 (upd (g1.2.2.2.1 31 0) j b)) 0 (upd (mS h) (28 + j) b) n := by
      obtain ⟨c1, c2, c3, c4, c5⟩ := s1
      refine ⟨by rw [hV 10 (by omega)]; exact c1, by rw [hV 11 (by omega)]; exact c2, ?_, ?_, fun k hk => ?_⟩
      · refine Eq.trans c3 ?_
        exact congrArg nI (bs_congr (fun k hk => by unfold vIn; rw [hV (12 + k) (by omega)]))
      · refine Eq.trans c4 ?_
        exact congrArg nI (bs_congr (fun k hk => by unfold vLb; rw [hV (12 + k) (by omega)]))
      · obtain ⟨d1, d2, d3, d4⟩ := c5 k hk
        rw [rdA_n (by omega), rdA_n (by omega), rdA_s, rdA_n (by omega), hV (20 + k) (by omega), hV (36 + k) (by omega), hV (44 + k) (by omega)]
        refine ⟨d1, d2, ?_, d4⟩
        by_cases kj : k = j
        · subst kj
          rw [pk_us, pk_us]
        · rw [pk_un kj, hV (28 + k) (by omega)]
          exact d3
    have hv' : vOk (upd (mS h) (28 + j) b) n m c := by
      refine vOk_of (fun t ht => hV t (by omega)) (by rw [hV 10 (by omega)]; exact v10) (by rw [hV 11 (by omega)]; exact v11) (fun k hk => ?_) hv
      obtain ⟨d1, d2, d3, d4, -⟩ := vk k hk
      rw [hV (12 + k) (by omega), hV (20 + k) (by omega), hV (36 + k) (by omega)]
      refine ⟨d1, d2, ?_, d4⟩
      by_cases kj : k = j
      · subst kj
        rw [pk_us]
        have b0 : ¬ b < 0 := fun z => b1 (Int32.lt_trans z (by decide))
        obtain ⟨y, hy, ea⟩ := nI_of2 (M := 20) (n := 20) (by decide) b0 (Int32.not_lt.mp b20)
        refine ⟨y, Nat.one_le_iff_ne_zero.mpr (fun z => b1 ?_), hy, ea⟩
        rw [ea, z]
        decide
      · rw [hV (28 + k) (by omega)]
        exact d3
    obtain ⟨eS, g2, e2, eS2, fin⟩ := act_all hQ hR r1 r2 hq ht hf him hsc u20 x20 u2 (fun j hj => (up j hj).1) hk pa (h1 := xsA g1 31 0 (upd (g1.2.2.2.1 31 0) j b)) (fun c k i hn => rfl) (fun f i hn => rdA_n (by omega)) s2 (fun t ht => hV t (by omega)) hv'
    have em : mS (xsA g2 56 0 (upd (mS g2) (28 + j) b)) = upd (mS h) (28 + j) b := by
      rw [← eS2]
      exact rdA_s
    refine ⟨mS h (28 + j), xsA g1 31 0 (upd (g1.2.2.2.1 31 0) j b), xsA g2 56 0 (upd (mS g2) (28 + j) b), ?_, ?_, fin _ rfl (fun f i hn => rdA_n (by omega)) em⟩
    · rw [cl, if_neg b1, if_neg b20, i2]
      show (if xib (nI j) 8 then _ else _) = _
      rw [if_pos x8, if_neg (show ¬ h.2.2.2.1 31 0 (nI j).toNatClampNeg = b by rw [cj, e31]; exact eb), e1]
      show (if xib (nI j) 8 then _ else _) = _
      rw [if_pos x8, cj, e31]
    · rw [rf, in_at eS hn hj hi]
      show (f_M_in b.toInt64 1 20 _).bind _ = _
      rw [m_in b 1 20 (by decide) (by decide), if_neg nb]
      show (if xib ((28 : Int32) + nI j) 101 then _ else _) = _
      rw [if_pos xk, if_neg (show ¬ mS (xsA g1 31 0 (upd (g1.2.2.2.1 31 0) j b)) ((28 : Int32) + nI j).toNatClampNeg = b by rw [ck, eS]; exact eb), e2]
      show (if xib ((28 : Int32) + nI j) 101 then _ else _) = _
      rw [if_pos xk, if_pos xk, ck, eS2]
