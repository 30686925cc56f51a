/-! PURE: ahead -/
def ahV (W : Nat → Int32) (n : Nat) (v : Int32) : Int32 := if v = 0 then W 10 else if v = 1 then isum (fun k => W (52 + k)) (vLb W) n else if v = 2 then isum (fun k => W (28 + k)) (vIn W) n + W 2 else nI (pc (bs (vIn W) n))
/-- the class's loops of steps -/
theorem c_ahead42 {h : xH} {n N : Nat} {V : Nat → Int32} {rl : Option Nat} {cs : List Cl} (v2 : Int32) (hN : N ≤ 100) (hw : wkA h V n rl cs) : ∃ h2, f_B_ahead_l42 (nI N) v2 0 h = some (ahV (wlk V n rl cs N) n v2, h2) ∧ wkF h h2 := by
  have key := whl_cntE (step := fun s : Int32 × xH => f_B_ahead_s42 (nI N) v2 s.1 s.2) N (fun k s => s.1 = nI k ∧ wkA s.2 (wlk V n rl cs k) n rl cs ∧ wkF h s.2) (fun x => ∃ h2, x = (ahV (wlk V n rl cs N) n v2, h2) ∧ wkF h h2) ?_ ?_ (0, h) ⟨nI_0.symm, hw, wkF_refl h⟩
  · obtain ⟨x, e, h2, rfl, f⟩ := key
    exact ⟨h2, e, f⟩
  · rintro k hk ⟨q1, g⟩ ⟨e1, w, f⟩
    have e1 : q1 = nI k := e1
    subst e1
    left
    obtain ⟨g2, e2, w2, f2⟩ := c_goOn (h := g) w
    show ∃ s', f_B_ahead_s42 (nI N) v2 (nI k) g = some (Sum.inl s') ∧ _
    unfold f_B_ahead_s42
    rw [if_neg (nI_ge hk (by omega)), e2, Option.bind_some]
    exact ⟨_, rfl, nI_1 k, w2, wkF_trans f f2⟩
  · rintro ⟨q1, g⟩ ⟨e1, w, f⟩
    have e1 : q1 = nI N := e1
    subst e1
    obtain ⟨⟨st, ⟨s1, s2, -, -, -⟩, -⟩, hv, -⟩ := id w
    have s1 : stR g 25 (wlk V n rl cs N) n := s1
    have s2 : twR g (wlk V n rl cs N) n := s2
    have h8 := hv.2.1
    refine ⟨_, ?_, g, rfl, f⟩
    show f_B_ahead_s42 (nI N) v2 (nI N) g = _
    generalize wlk V n rl cs N = W at s1 s2
    unfold f_B_ahead_s42 f_B_ahead_b61 ahV
    rw [if_pos (Int32.le_refl _), s1.1, c_deepOf2 s2.2.2 h8 s1.2.2.2.1, s2.2.1, c_load s1 h8, s1.2.2.1, c_bitCount (bs_lt8 _ h8), Int32.add_comm (W 2)]
    split
    · rfl
    · split
      · rfl
      · split
        · rfl
        · rfl
theorem m_passesAll {h0 h : xH} {n N : Nat} {V0 V : Nat → Int32} {rl : Option Nat} {cs : List Cl} (hN : N ≤ 100) (hw : mwR h0 h V0 V) (hv : wOk V n) (hf : h0.1 12 21 0 = oI rl) (hr : ∀ r, rl = some r → r < 6 ∧ mcR h0 r 0 0 cs) : ∃ h2, f_M_passesAll (nI N) h = some h2 ∧ mwR h0 h2 V0 (wlk V n rl cs N) := by
  have key := whl_cntE (step := fun s : Int32 × xH => f_M_passesAll_s2 (nI N) s.1 s.2) N (fun k s => s.1 = nI k ∧ mwR h0 s.2 V0 (wlk V n rl cs k)) (fun x => mwR h0 x V0 (wlk V n rl cs N)) ?_ ?_ (0, h) ⟨nI_0.symm, hw⟩
  · exact key
  · rintro k hk ⟨q1, g⟩ ⟨e1, w⟩
    have e1 : q1 = nI k := e1
    subst e1
    left
    obtain ⟨g2, e2, w2⟩ := m_passW (h' := g) w (wlk_ok hv k) hf hr
    show ∃ s', f_M_passesAll_s2 (nI N) (nI k) g = some (Sum.inl s') ∧ _
    unfold f_M_passesAll_s2
    rw [if_neg (nI_ge hk (by omega)), e2, Option.bind_some]
    exact ⟨_, rfl, nI_1 k, w2⟩
  · rintro ⟨q1, g⟩ ⟨e1, w⟩
    have e1 : q1 = nI N := e1
    subst e1
    refine ⟨g, ?_, w⟩
    show f_M_passesAll_s2 (nI N) (nI N) g = _
    unfold f_M_passesAll_s2
    rw [if_pos (Int32.le_refl _)]
theorem of_in {v : Int32} {N : Nat} (hN : N < 2 ^ 31) (h0 : ¬ v < 0) (h1 : v ≤ nI N) : ∃ k, k ≤ N ∧ v = nI k := by
  obtain ⟨j, hj, e⟩ := nI_of2 (M := nI N) (n := N) (nI_toInt hN) h0 h1
  exact ⟨j, hj, e⟩
/-- ahead -/
theorem p_ahead : lI_ahead (jII Qr) := by
  intro a b h hj
  obtain ⟨n, m, c, rl, cs, hsc, hf, hf4, hc, hr, hn⟩ := ask_pre hj
  obtain ⟨hv, ht, hst, -, -⟩ := id hsc
  obtain ⟨v0, -⟩ := id hv
  have cl : f_B_ahead a b h = (if h.1 8 0 0 = 0 then some (-1, h) else if a < 0 then some (-1, h) else if a ≤ 100 then (if b < 0 then some (-1, h) else if b ≤ 3 then (f_B_startNow h).bind (fun h8 => f_B_ahead_l42 a b 0 h8) else some (-1, h)) else some (-1, h)) := rfl
  have rf : ∀ h1 : xH, f_M_ahead a b h1 = (f_M_isTrug h1).bind (fun r1 => if r1 = 0 then some (-1, h1) else (f_M_in a.toInt64 0 100 h1).bind (fun r4 => if r4 = 0 then some (-1, h1) else (f_M_in b.toInt64 0 3 h1).bind (fun r7 => if r7 = 0 then some (-1, h1) else (f_M_keeps h1).bind (fun h12 => (f_M_passesAll a h12).bind (fun h15 => if b = 0 then f_M_ahead_b87 (h15.2.2.2.1 56 0 10) h15 else if b = 1 then (f_M_letBe h15).bind (fun r21 => f_M_ahead_b87 r21 h15) else if b = 2 then (f_M_loadNow h15).bind (fun r24 => f_M_ahead_b87 r24 h15) else (f_M_inside h15).bind (fun r26 => (f_M_bits r26 h15).bind (fun r28 => f_M_ahead_b87 r28 h15))))))) := fun _ => rfl
  have mi : ∀ h1 : xH, f_M_in a.toInt64 0 100 h1 = some (if a < 0 ∨ 100 < a then 0 else 1) := fun h1 => m_in a 0 100 (by decide) (by decide)
  have mb : ∀ h1 : xH, f_M_in b.toInt64 0 3 h1 = some (if b < 0 ∨ 3 < b then 0 else 1) := fun h1 => m_in b 0 3 (by decide) (by decide)
  by_cases z : mS h 0 = 0
  · exact ⟨-1, h, h, by rw [cl, ht.1, if_pos z], by rw [rf, m_isTrug v0, Option.bind_some, if_pos z], hj⟩
  by_cases a0 : a < 0
  · exact ⟨-1, h, h, by rw [cl, ht.1, if_neg z, if_pos a0], by rw [rf, m_isTrug v0, Option.bind_some, if_neg z, mi, if_pos (Or.inl a0)]; rfl, hj⟩
  by_cases a1 : ¬ a ≤ 100
  · exact ⟨-1, h, h, by rw [cl, ht.1, if_neg z, if_neg a0, if_neg a1], by rw [rf, m_isTrug v0, Option.bind_some, if_neg z, mi, if_pos (Or.inr (Int32.not_le.mp a1))]; rfl, hj⟩
  have a1 : a ≤ 100 := Decidable.not_not.mp a1
  have am : ∀ h1 : xH, f_M_in a.toInt64 0 100 h1 = some 1 := fun h1 => by rw [mi, if_neg (fun y => y.elim a0 (Int32.not_lt.mpr a1))]
  by_cases b0 : b < 0
  · exact ⟨-1, h, h, by rw [cl, ht.1, if_neg z, if_neg a0, if_pos a1, if_pos b0], by rw [rf, m_isTrug v0, Option.bind_some, if_neg z, am, Option.bind_some, if_neg (by decide), mb, if_pos (Or.inl b0)]; rfl, hj⟩
  by_cases b1 : ¬ b ≤ 3
  · exact ⟨-1, h, h, by rw [cl, ht.1, if_neg z, if_neg a0, if_pos a1, if_neg b0, if_neg b1], by rw [rf, m_isTrug v0, Option.bind_some, if_neg z, am, Option.bind_some, if_neg (by decide), mb, if_pos (Or.inr (Int32.not_le.mp b1))]; rfl, hj⟩
  have b1 : b ≤ 3 := Decidable.not_not.mp b1
  obtain ⟨N, hN, rfl⟩ := of_in (N := 100) (by decide) a0 a1
  obtain ⟨g, eg, wg, fg⟩ := ask_start hsc hf4 hc hn
  obtain ⟨g1, eg1, fg1⟩ := c_ahead42 b hN wg
  have f1 := wkF_trans fg fg1
  obtain ⟨eS, mf, mr⟩ := ask_mid f1 hf hr
  have hw := wOk_v hv
  have h8 := hw.2.1
  obtain ⟨k1, ek1, wk1⟩ := m_keepW (h := g1)
  obtain ⟨k2, ek2, wk2⟩ := m_passesAll hN wk1 (by rw [eS]; exact hw) mf mr
  obtain ⟨k3, ek3, jk3, -⟩ := m_backW wk2 (fun t ht => wlk_o h8 ht N)
  have eW := wk2.2.2.2
  rw [eS] at eW
  have wo : wOk (wlk (mS h) n rl cs N) n := wlk_ok hw N
  have hn2 : mN k2 n := ⟨by rw [eW]; exact wo.1, h8⟩
  refine ⟨ahV (wlk (mS h) n rl cs N) n b, g1, k3, ?_, ?_, sameJ_jII Qr_ok (sameJ_trans (wkF_J f1) jk3) hj⟩
  · rw [cl, ht.1, if_neg z, if_neg a0, if_pos a1, if_neg b0, if_pos b1, eg, Option.bind_some, eg1]
  · rw [rf, m_isTrug (by rw [eS]; exact v0), Option.bind_some, eS, if_neg z, am, Option.bind_some, if_neg (by decide), mb, if_neg (fun y => y.elim b0 (Int32.not_lt.mpr b1)), Option.bind_some, if_neg (by decide), ek1, Option.bind_some, ek2, Option.bind_some, m_letBe hn2, m_loadNow hn2, m_inside hn2, Option.bind_some, Option.bind_some, Option.bind_some, mIn_v, m_bits (bs_lt8 _ h8), Option.bind_some]
    have b87 : ∀ t0, f_M_ahead_b87 t0 k2 = some (t0, k3) := fun t0 => by
      show (f_M_laysBack k2).bind (fun h19 => some (t0, h19)) = _
      rw [ek3]
      rfl
    rw [b87, b87, b87, b87]
    show (if b = 0 then some (mS k2 10, k3) else _) = _
    rw [eW]
    unfold ahV
    split
    · rfl
    · split
      · rfl
      · split
        · rfl
        · rfl
