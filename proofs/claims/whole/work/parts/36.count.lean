/-! PURE: loads, what is let be, counts -/
section CS2
variable {h : xH} {i n : Nat} {V : Nat → Int32}
theorem m_letBeOnes (hn : mN h n) : f_M_letBeOnes h = some (nI (bs (vLb (mS h)) n)) := by
  have h8 := hn.2
  show whl (fun s => f_M_letBeOnes_s4 s.1 s.2 h) ((fun k => (nI (bs (vLb (mS h)) k), nI k)) 0) = _
  refine whl_cnt n (fun k => (nI (bs (vLb (mS h)) k), nI k)) _ (fun k hk => ?_) ?_
  · show (if mS h 3 ≤ nI k then _ else (if xib (12 + nI k) 101 then (if mS h ((12 : Int32) + nI k).toNatClampNeg = 1 then some (Sum.inl (nI (bs (vLb (mS h)) k) ||| ((1 : Int32) <<< (nI k &&& 31)), nI k + 1)) else some (Sum.inl (nI (bs (vLb (mS h)) k) ||| 0, nI k + 1))) else none)) = some (Sum.inl (nI (bs (vLb (mS h)) k + (if vLb (mS h) k then 2 ^ k else 0)), nI (k + 1)))
    rw [hn.1, if_neg (nI_ge hk (by omega)), if_pos (xibA (c := 12) (a := 12) rfl (by omega) (by decide)), ixA (c := 12) (a := 12) rfl (by omega), sb_or1 k (by omega) _ (bs_lt _ k), sb_or0, nI_1]
    unfold vLb
    by_cases hz : mS h (12 + k) = 1 <;> simp [hz]
  · show (if mS h 3 ≤ nI n then _ else _) = _
    rw [hn.1, if_pos (nI_le (Nat.le_refl n) (by omega))]
theorem m_letBe (hn : mN h n) : f_M_letBe h = some (isum (fun k => mS h (52 + k)) (vLb (mS h)) n) := by
  have h8 := hn.2
  show (f_M_letBeOnes h).bind (fun r1 => (f_M_sumOf r1 52 h).bind fun r3 => some r3) = _
  rw [m_letBeOnes hn]
  show (f_M_sumOf (nI (bs (vLb (mS h)) n)) 52 h).bind (fun r3 => some r3) = _
  rw [m_sumOf hn (c := 52) (a := 52) rfl (by omega) (bs_lt8 _ h8)]
  exact congrArg some (isum_congr (fun k hk => ⟨bs_in hk, fun _ => rfl⟩))
theorem m_loadNow (hn : mN h n) : f_M_loadNow h = some (isum (fun k => mS h (28 + k)) (vIn (mS h)) n + mS h 2) := by
  have h8 := hn.2
  show (f_M_inside h).bind (fun r1 => (f_M_sumOf r1 28 h).bind fun r3 => some (r3 + mS h 2)) = _
  rw [m_inside hn]
  show (f_M_sumOf (nI (bs (mIn h) n)) 28 h).bind (fun r3 => some (r3 + mS h 2)) = _
  rw [m_sumOf hn (c := 28) (a := 28) rfl (by omega) (bs_lt8 _ h8)]
  show some (_ + mS h 2) = _
  rw [isum_congr (p := fun k => (bs (mIn h) n).testBit k) (p' := vIn (mS h)) (fun k hk => ⟨bs_in (p := mIn h) hk, fun _ => rfl⟩)]
theorem c_looseBits (hs : stR h i V n) (h8 : n ≤ 8) : f_State_looseBits i h = some (nI (bs (vLoose V n) n)) := by
  have e0 : bs (fun k => decide (k < n) && vLoose V n k) 8 = bs (vLoose V n) n := by
    rw [bs_ext 8 h8 (fun k h1 _ => by have : ¬ k < n := by omega
                                      simp [this])]
    exact bs_congr (fun k hk => by simp [hk])
  rw [← e0]
  show whl (fun s => f_State_looseBits_s4 i s.1 s.2 h) ((fun k => (nI (bs (fun k => decide (k < n) && vLoose V n k) k), nI k)) 0) = _
  refine whl_cnt 8 (fun k => (nI (bs (fun k => decide (k < n) && vLoose V n k) k), nI k)) _ (fun k hk => ?_) rfl
  show (if (8 : Int32) ≤ nI k then _ else (f_State_isLoose i (nI k) h).bind (fun r2 => if r2 = 0 then some (Sum.inl (nI (bs (fun k => decide (k < n) && vLoose V n k) k), nI k + 1)) else some (Sum.inl (nI (bs (fun k => decide (k < n) && vLoose V n k) k) ||| ((1 : Int32) <<< (nI k &&& 31)), nI k + 1)))) = some (Sum.inl (nI (bs (fun k => decide (k < n) && vLoose V n k) k + (if (decide (k < n) && vLoose V n k) then 2 ^ k else 0)), nI (k + 1)))
  rw [if_neg (show ¬ (8 : Int32) ≤ nI k from nI_ge (b := 8) hk (by decide)), sb_or1 k hk _ (bs_lt _ k), nI_1]
  by_cases hkn : k < n
  · rw [c_isLoose_in hs h8 hkn]
    cases hv : vLoose V n k <;> simp [hkn]
  · rw [c_isLoose_out hs h8 (Or.inr (nI_le (by omega) (by omega)))]
    simp [hkn]
theorem c_sum8 {B : Nat} {x : Int32} {f : Nat → Int32} (hx : x = nI B) (hB : B < 256) (e : Int32) (step : Int32 × Int32 → Option ((Int32 × Int32) ⊕ Int32)) (hst : ∀ a k, step (a, k) = (if (8 : Int32) ≤ k then some (Sum.inr a) else if (x >>> (k &&& 31)) &&& 1 = 0 then some (Sum.inl (a, k + 1)) else if xib k 8 then some (Sum.inl (a + f k.toNatClampNeg, k + 1)) else none)) : whl step (e, 0) = some (e + isum f (fun k => B.testBit k) 8) := by
  have e1 : (e, (0 : Int32)) = (fun k => (e + isum f (fun k => B.testBit k) k, nI k)) 0 := by
    show (e, (0 : Int32)) = (e + 0, nI 0)
    rw [nI_0]
    simp
  rw [e1]
  refine whl_cnt 8 (fun k => (e + isum f (fun k => B.testBit k) k, nI k)) _ (fun k hk => ?_) ?_
  · show step (e + isum f (fun k => B.testBit k) k, nI k) = some (Sum.inl (e + (isum f (fun k => B.testBit k) k + (if B.testBit k then f k else 0)), nI (k + 1)))
    rw [hst, if_neg (show ¬ (8 : Int32) ≤ nI k from nI_ge (b := 8) hk (by decide)), hx, if_pos (xibN hk (by decide)), nI_clamp (by omega), nI_1]
    cases hb : B.testBit k with
    | true => rw [if_neg (by rw [c_bit0 hB hk, hb]; decide), ← Int32.add_assoc]; rfl
    | false =>
      rw [if_pos ((c_bit0 hB hk).mpr hb)]
      simp
  · show step (e + isum f (fun k => B.testBit k) 8, nI 8) = _
    rw [hst, if_pos (show (8 : Int32) ≤ nI 8 by decide)]
theorem c_load (hs : stR h i V n) (h8 : n ≤ 8) (e : Int32) : f_State_load i e h = some (e + isum (fun k => V (28 + k)) (vIn V) n) := by
  have h1 := c_sum8 (f := fun k => h.2.2.2.1 31 i k) hs.2.2.1 (bs_lt8 _ h8) e (fun s => f_State_load_s4 i s.1 s.2 h) (fun a k => rfl)
  refine Eq.trans h1 ?_
  rw [isum_ext 8 h8 (fun k hk _ => bs_hi hk), isum_congr (f' := fun k => V (28 + k)) (p' := vIn V) (fun k hk => ⟨bs_in hk, fun _ => (hs.2.2.2.2 k hk).2.2.1⟩)]
theorem c_deepOf {m : Nat} {p : Nat → Bool} (ht : toR h i V n m) (h8 : n ≤ 8) {x : Int32} (hx : x = nI (bs p n)) : f_Told_deepOf i x h = some (isum (fun k => V (52 + k)) p n) := by
  have h1 := c_sum8 (f := fun k => h.2.2.2.1 39 i k) hx (bs_lt8 _ h8) 0 (fun s => f_Told_deepOf_s4 i x s.1 s.2 h) (fun a k => rfl)
  refine Eq.trans h1 ?_
  rw [isum_ext 8 h8 (fun k hk _ => bs_hi hk), isum_congr (f' := fun k => V (52 + k)) (p' := p) (fun k hk => ⟨bs_in hk, fun _ => (ht.2.2.2.2.2.1 k hk).2.2.1⟩)]
  simp
end CS2
variable {Q : xH → Nat → Prop}
/-- count -/
theorem p_count : lI_count (jII Q) := by
  rintro w h ⟨R, hR, r1, r2, hj, hq⟩
  obtain ⟨⟨t, t1, t2, t3, t4⟩, ⟨f1, f2, f3, f4⟩, -, n, m, c, hs, hp⟩ := id hj
  obtain ⟨hv, ht, hst, hnc, -⟩ := hs
  obtain ⟨-, -, -, -, v3, n8, v4, -⟩ := id hv
  obtain ⟨u, x, u1, u2, u3, u4, -⟩ := hp
  have hn : mN h n := ⟨v3, n8⟩
  by_cases q0 : w = 0
  · subst q0; exact ⟨h.1 8 1 0, rfl, congrArg some ht.2.1.symm⟩
  by_cases q1 : w = 1
  · subst q1; exact ⟨h.1 8 2 0, rfl, congrArg some ht.2.2.1.symm⟩
  by_cases q2 : w = 2
  · subst q2; exact ⟨h.1 8 3 0, rfl, congrArg some ht.2.2.2.1.symm⟩
  by_cases q3 : w = 3
  · subst q3; exact ⟨h.1 8 4 0, rfl, congrArg some ht.2.2.2.2.1.symm⟩
  by_cases q4 : w = 4
  · subst q4; exact ⟨h.1 11 5 0, rfl, congrArg some (r2.trans r1.symm)⟩
  by_cases q5 : w = 5
  · subst q5; exact ⟨h.1 4 2 0, rfl, congrArg some f1.symm⟩
  by_cases q6 : w = 6
  · subst q6; exact ⟨h.1 6 0 0, rfl, congrArg some hst.1.symm⟩
  by_cases q7 : w = 7
  · subst q7; exact ⟨h.1 6 1 0, rfl, congrArg some hst.2.1.symm⟩
  by_cases q8 : w = 8
  · subst q8
    refine ⟨h.1 6 2 0, rfl, ?_⟩
    show (f_M_inside h).bind (fun r => some r) = _
    rw [m_inside hn, hst.2.2.1]
    rfl
  by_cases q9 : w = 9
  · subst q9
    refine ⟨nI (bs (vLoose (mS h) n) n), ?_, ?_⟩
    · show ((f_State_looseBits 0 h).bind (fun r => some r)).bind (fun r => some r) = _
      rw [c_looseBits hst n8]
      rfl
    · show (f_M_looseOnes h).bind (fun r => some r) = _
      rw [m_looseOnes hn]
      rfl
  by_cases q10 : w = 10
  · subst q10
    refine ⟨isum (fun k => mS h (52 + k)) (vLb (mS h)) n, ?_, ?_⟩
    · show ((f_Told_deepOf 0 (h.1 6 3 0) h).bind (fun r => some r)).bind (fun r => some r) = _
      rw [c_deepOf ht n8 hst.2.2.2.1]
      rfl
    · show (f_M_letBe h).bind (fun r => some r) = _
      rw [m_letBe hn]
      rfl
  by_cases q11 : w = 11
  · subst q11
    refine ⟨isum (fun k => mS h (28 + k)) (vIn (mS h)) n + mS h 2, ?_, ?_⟩
    · show ((f_State_load 0 (h.1 8 2 0) h).bind (fun r => some r)).bind (fun r => some r) = _
      rw [c_load hst n8, ht.2.2.1, Int32.add_comm]
      rfl
    · show (f_M_loadNow h).bind (fun r => some r) = _
      rw [m_loadNow hn]
      rfl
  by_cases q12 : w = 12
  · subst q12; exact ⟨h.1 4 4 0, rfl, congrArg some hnc.symm⟩
  by_cases q13 : w = 13
  · subst q13; exact ⟨h.1 1 2 0, rfl, congrArg some (u4.trans u3.symm)⟩
  by_cases q14 : w = 14
  · subst q14; exact ⟨h.1 4 3 0, rfl, congrArg some f2.symm⟩
  by_cases q15 : w = 15
  · subst q15; exact ⟨h.1 7 6 0, rfl, congrArg some (t3.trans t2.symm)⟩
  · refine ⟨-1, ?_, ?_⟩
    · show f_B_count_e w h = _
      unfold f_B_count_e f_B_countMore f_B_countMore_e
      simp only [q0, q1, q2, q3, q4, q5, q6, q7, q8, q9, q10, q11, q12, q13, q14, q15, if_false, Option.bind_some]
    · show f_M_count_e w h = _
      unfold f_M_count_e
      simp only [q0, q1, q2, q3, q4, q5, q6, q7, q8, q9, q10, q11, q12, q13, q14, q15, if_false]
