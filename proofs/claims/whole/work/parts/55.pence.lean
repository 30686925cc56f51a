/-! PURE: pence -/
/-- a fold over 0, 1, .. k - 1 -/
def fold {σ : Type} (f : Nat → σ → σ) (s : σ) : Nat → σ
  | 0 => s
  | k + 1 => f k (fold f s k)
theorem fold_ext {σ : Type} {f : Nat → σ → σ} {s : σ} {n : Nat} : ∀ m, n ≤ m → (∀ k, n ≤ k → k < m → ∀ t, f k t = t) → fold f s m = fold f s n
  | 0, h, _ => by rw [show n = 0 by omega]
  | m + 1, h, hf => by
    by_cases hm : n = m + 1
    · rw [hm]
    · show f m (fold f s m) = _
      rw [hf m (by omega) (by omega), fold_ext m (by omega) (fun k h1 h2 => hf k h1 (by omega))]
theorem fold_congr {σ : Type} {f g : Nat → σ → σ} {s : σ} : ∀ {n : Nat}, (∀ k, k < n → ∀ t, f k t = g k t) → fold f s n = fold g s n
  | 0, _ => rfl
  | n + 1, h => by
    show f n (fold f s n) = g n (fold g s n)
    rw [fold_congr (fun k hk => h k (by omega)), h n (by omega)]
theorem xlet_e {α β : Type} (v : α) (k : α → β) : xlet v k = k v := rfl
theorem c_isLetBe8 {h : xH} {i n : Nat} {V : Nat → Int32} (hs : stR h i V n) (h8 : n ≤ 8) {j : Nat} (hj : j < 8) : f_State_isLetBe i (nI j) h = some (if (decide (j < n) && vLb V j) = true then 1 else 0) := by
  by_cases hn : j < n
  · rw [c_isLetBe_in hs h8 hn]
    simp [hn]
  · have := c_isBit hs.2.2.2.1 (bs_lt8 _ h8) h8 (fun k hk => bs_hi hk) (nI j)
    refine Eq.trans this ?_
    rw [if_neg, if_neg]
    · simp [hn]
    · rintro ⟨j2, h2, h3, h4⟩
      have : j = j2 := (nI_eq (by omega) (by omega)).mp h3
      omega
/-- what one SORROW does to what is left and to how many are ahead -/
def pnF (V : Nat → Int32) (n : Nat) (much all lost srt : Int32) (k : Nat) (s : Int32 × Int32) : Int32 × Int32 :=
  if (decide (k < n) && vLb V k) = true then (s.1 - much * V (52 + k) / all, if lost < much * V (52 + k) - much * V (52 + k) / all * all then s.2 + 1 else if much * V (52 + k) - much * V (52 + k) / all * all = lost then (if srt ≤ nI k then s.2 else s.2 + 1) else s.2) else s
theorem c_penny27 {h : xH} {n m : Nat} {V : Nat → Int32} (hs : stR h 0 V n) (ht : toR h 0 V n m) (h8 : n ≤ 8) {much all lost srt : Int32} (ha : ¬ all = 0) : f_B_penny_l27 much srt all much 0 lost 0 h = some (if (fold (pnF V n much all lost srt) (much, 0) n).1 ≤ (fold (pnF V n much all lost srt) (much, 0) n).2 then 0 else 1) := by
  have e8 : fold (pnF V n much all lost srt) (much, 0) 8 = fold (pnF V n much all lost srt) (much, 0) n := fold_ext 8 h8 (fun k h1 h2 t => if_neg (by simp [show ¬ k < n by omega]))
  rw [← e8]
  refine whl_cnt (step := fun s => f_B_penny_s27 much srt all s.1 s.2.1 lost s.2.2 h) 8 (fun k => ((fold (pnF V n much all lost srt) (much, 0) k).1, (fold (pnF V n much all lost srt) (much, 0) k).2, nI k)) _ (fun k hk => ?_) ?_
  · show f_B_penny_s27 much srt all (fold (pnF V n much all lost srt) (much, 0) k).1 (fold (pnF V n much all lost srt) (much, 0) k).2 lost (nI k) h = some (Sum.inl ((pnF V n much all lost srt k (fold (pnF V n much all lost srt) (much, 0) k)).1, (pnF V n much all lost srt k (fold (pnF V n much all lost srt) (much, 0) k)).2, nI (k + 1)))
    generalize fold (pnF V n much all lost srt) (much, 0) k = s
    obtain ⟨a, b⟩ := s
    unfold f_B_penny_s27 pnF
    rw [if_neg (show ¬ (8 : Int32) ≤ nI k from nI_ge (b := 8) hk (by decide)), c_isLetBe8 hs h8 hk, Option.bind_some]
    by_cases hp : (decide (k < n) && vLb V k) = true
    · have hkn : k < n := by
        simp at hp
        exact hp.1
      rw [if_pos hp, if_neg (by decide), if_pos (xibN hk (by decide)), nI_clamp (by omega), (ht.2.2.2.2.2.1 k hkn).2.2.1, if_pos hp, xlet_e, if_pos ha, xlet_e, if_pos ha, xlet_e]
      by_cases c1 : lost < much * V (52 + k) - much * V (52 + k) / all * all
      · rw [if_pos c1, if_pos c1, ← nI_1]
        rfl
      · rw [if_neg c1, if_neg c1]
        by_cases c2 : much * V (52 + k) - much * V (52 + k) / all * all = lost
        · rw [if_pos c2, if_pos c2]
          by_cases c3 : srt ≤ nI k
          · rw [if_pos c3, if_pos c3, ← nI_1]
            rfl
          · rw [if_neg c3, if_neg c3, ← nI_1]
            rfl
        · rw [if_neg c2, if_neg c2, ← nI_1]
          rfl
    · rw [if_neg hp, if_pos rfl, if_neg hp, ← nI_1]
      rfl
  · show f_B_penny_s27 much srt all _ _ lost (nI 8) h = _
    unfold f_B_penny_s27
    rw [if_pos (show (8 : Int32) ≤ nI 8 by decide)]
    unfold f_B_penny_b110
    split <;> rfl
theorem m_deepOf {h : xH} {k : Nat} (hk : k < 8) (hl : vLb (mS h) k = true) : f_M_deepOf (nI k) h = some (mS h (52 + k)) := by
  show (if xib (12 + nI k) 101 then (if mS h ((12 : Int32) + nI k).toNatClampNeg = 1 then (if xib (52 + nI k) 101 then some (mS h ((52 : Int32) + nI k).toNatClampNeg) else none) else some 0) else none) = _
  rw [if_pos (xibA (c := 12) (a := 12) rfl (by omega) (by decide)), ixA (c := 12) (a := 12) rfl (by omega), if_pos (of_decide_eq_true hl), if_pos (xibA (c := 52) (a := 52) rfl (by omega) (by decide)), ixA (c := 52) (a := 52) rfl (by omega)]
theorem m_pence64 {h : xH} {n : Nat} (hn : mN h n) {much all own srt : Int32} (ha : ¬ all = 0) : f_M_pence_l64 much srt all own much 0 0 h = some (own / all + (if (fold (pnF (mS h) n much all (own - own / all * all) srt) (much, 0) n).1 ≤ (fold (pnF (mS h) n much all (own - own / all * all) srt) (much, 0) n).2 then 0 else 1)) := by
  have h8 := hn.2
  refine whl_cnt (step := fun s => f_M_pence_s64 much srt all own s.1 s.2.1 s.2.2 h) n (fun k => ((fold (pnF (mS h) n much all (own - own / all * all) srt) (much, 0) k).1, (fold (pnF (mS h) n much all (own - own / all * all) srt) (much, 0) k).2, nI k)) _ (fun k hk => ?_) ?_
  · show f_M_pence_s64 much srt all own (fold (pnF (mS h) n much all (own - own / all * all) srt) (much, 0) k).1 (fold (pnF (mS h) n much all (own - own / all * all) srt) (much, 0) k).2 (nI k) h = some (Sum.inl ((pnF (mS h) n much all (own - own / all * all) srt k (fold (pnF (mS h) n much all (own - own / all * all) srt) (much, 0) k)).1, (pnF (mS h) n much all (own - own / all * all) srt k (fold (pnF (mS h) n much all (own - own / all * all) srt) (much, 0) k)).2, nI (k + 1)))
    generalize fold (pnF (mS h) n much all (own - own / all * all) srt) (much, 0) k = s
    obtain ⟨a, b⟩ := s
    have e3 : h.2.2.2.1 56 0 ((3 : Int32)).toNatClampNeg = nI n := hn.1
    unfold f_M_pence_s64 pnF
    rw [e3, if_neg (nI_ge hk (by omega)), if_pos (xibA (c := 12) (a := 12) rfl (by omega) (by decide)), ixA (c := 12) (a := 12) rfl (by omega)]
    by_cases hp : vLb (mS h) k = true
    · have hp1 : (decide (k < n) && vLb (mS h) k) = true := by simp [hk, hp]
      rw [if_pos (of_decide_eq_true hp), m_deepOf (by omega) hp, Option.bind_some, if_pos hp1, xlet_e, if_pos ha, xlet_e, if_pos ha, if_pos ha]
      by_cases c1 : own - own / all * all < much * mS h (52 + k) - much * mS h (52 + k) / all * all
      · rw [if_pos c1, if_pos c1, ← nI_1]
        rfl
      · rw [if_neg c1, if_neg c1, if_pos ha, if_pos ha]
        by_cases c2 : much * mS h (52 + k) - much * mS h (52 + k) / all * all = own - own / all * all
        · rw [if_pos c2, if_pos c2]
          by_cases c3 : srt ≤ nI k
          · rw [if_pos c3, if_pos c3, ← nI_1]
            show some (Sum.inl (_, b + 0, _)) = _
            rw [Int32.add_zero]
          · rw [if_neg c3, if_neg c3, ← nI_1]
            rfl
        · rw [if_neg c2, if_neg c2, ← nI_1]
          show some (Sum.inl (_, b + 0, _)) = _
          rw [Int32.add_zero]
    · rw [if_neg (fun z => hp (decide_eq_true z)), if_neg (by simp [hp]), ← nI_1]
      rfl
  · show f_M_pence_s64 much srt all own _ _ (nI n) h = _
    have e3 : h.2.2.2.1 56 0 ((3 : Int32)).toNatClampNeg = nI n := hn.1
    unfold f_M_pence_s64
    rw [e3, if_pos (Int32.le_refl _)]
    unfold f_M_pence_b155
    rw [if_pos ha]
    split <;> rfl
variable {Q : xH → Nat → Prop}
/-- pence -/
theorem p_pence : lI_pence (jII Q) := by
  rintro a b h ⟨R, hR, r1, r2, hj, hq⟩
  obtain ⟨n, m, c, hs, -⟩ := hj.2.2.2
  obtain ⟨hv, ht, hst, -⟩ := hs
  obtain ⟨-, -, -, -, v3, n8, -⟩ := hv
  have hn : mN h n := ⟨v3, n8⟩
  have t3 : h.1 8 3 0 = nI n := ht.2.2.2.1.trans v3
  have cl : f_B_pence a b h = (if a < 0 then some (-1) else if 9999 < a then some (-1) else (f_Told_hasSorrow 0 b h).bind (fun r3 => if r3 = 0 then some (-1) else (f_Told_deepOf 0 (h.1 6 3 0) h).bind (fun r6 => if r6 = 0 then some 0 else (f_State_isLetBe 0 b h).bind (fun r9 => if r9 = 0 then some 0 else if xib b 8 then (if ¬ r6 = 0 then (f_B_penny a b r6 h).bind (fun r14 => some (a * h.2.2.2.1 39 0 b.toNatClampNeg / r6 + r14)) else none) else none)))) := rfl
  have rf : f_M_pence a b h = (f_M_isSorrow b h).bind (fun r1 => if r1 = 0 then some (-1) else (f_M_in a.toInt64 0 9999 h).bind (fun r4 => if r4 = 0 then some (-1) else (f_M_letBe h).bind (fun r7 => if r7 = 0 then some 0 else if xib (12 + b) 101 then (if mS h ((12 : Int32) + b).toNatClampNeg = 1 then (f_M_deepOf b h).bind (fun r12 => f_M_pence_l64 a b r7 (a * r12) a 0 0 h) else some 0) else none))) := rfl
  have mi : f_M_in a.toInt64 0 9999 h = some (if a < 0 ∨ 9999 < a then 0 else 1) := m_in a 0 9999 (by decide) (by decide)
  rcases pk_ix b (n := n) (by omega) with h1 | h1 | ⟨j, hjn, rfl⟩
  · refine ⟨-1, ?_, by rw [rf, m_isSorrow_out hn (Or.inl h1)]; rfl⟩
    rw [cl, c_hasSorrow_out t3 (Or.inl h1)]
    split
    · rfl
    · split <;> rfl
  · refine ⟨-1, ?_, by rw [rf, m_isSorrow_out hn (Or.inr h1)]; rfl⟩
    rw [cl, c_hasSorrow_out t3 (Or.inr h1)]
    split
    · rfl
    · split <;> rfl
  by_cases a0 : a < 0
  · exact ⟨-1, by rw [cl, if_pos a0], by rw [rf, m_isSorrow_in hn hjn, Option.bind_some, if_neg (by decide), mi, if_pos (Or.inl a0)]; rfl⟩
  by_cases a9 : (9999 : Int32) < a
  · exact ⟨-1, by rw [cl, if_neg a0, if_pos a9], by rw [rf, m_isSorrow_in hn hjn, Option.bind_some, if_neg (by decide), mi, if_pos (Or.inr a9)]; rfl⟩
  have cl2 : f_B_pence a (nI j) h = (if isum (fun k => mS h (52 + k)) (vLb (mS h)) n = 0 then some 0 else (f_State_isLetBe 0 (nI j) h).bind (fun r9 => if r9 = 0 then some 0 else if xib (nI j) 8 then (if ¬ isum (fun k => mS h (52 + k)) (vLb (mS h)) n = 0 then (f_B_penny a (nI j) (isum (fun k => mS h (52 + k)) (vLb (mS h)) n) h).bind (fun r14 => some (a * h.2.2.2.1 39 0 (nI j).toNatClampNeg / (isum (fun k => mS h (52 + k)) (vLb (mS h)) n) + r14)) else none) else none)) := by
    rw [cl, if_neg a0, if_neg a9, c_hasSorrow_in t3 n8 hjn, Option.bind_some, if_neg (by decide), c_deepOf ht n8 hst.2.2.2.1, Option.bind_some]
  have rf2 : f_M_pence a (nI j) h = (if isum (fun k => mS h (52 + k)) (vLb (mS h)) n = 0 then some 0 else if xib (12 + nI j) 101 then (if mS h ((12 : Int32) + nI j).toNatClampNeg = 1 then (f_M_deepOf (nI j) h).bind (fun r12 => f_M_pence_l64 a (nI j) (isum (fun k => mS h (52 + k)) (vLb (mS h)) n) (a * r12) a 0 0 h) else some 0) else none) := by
    rw [rf, m_isSorrow_in hn hjn, Option.bind_some, if_neg (by decide), mi, if_neg (fun z => z.elim a0 a9), Option.bind_some, if_neg (by decide), m_letBe hn, Option.bind_some]
  rw [cl2, rf2]
  generalize isum (fun k => mS h (52 + k)) (vLb (mS h)) n = all
  by_cases ha : all = 0
  · exact ⟨0, by rw [if_pos ha], by rw [if_pos ha]⟩
  rw [if_neg ha, if_neg ha, c_isLetBe_in hst n8 hjn, Option.bind_some, if_pos (xibA (c := 12) (a := 12) rfl (by omega) (by decide)), ixA (c := 12) (a := 12) rfl (by omega)]
  by_cases hl : vLb (mS h) j = true
  · rw [if_pos hl, if_neg (by decide), if_pos (xibN (show j < 8 by omega) (by decide)), if_pos ha, if_pos (of_decide_eq_true hl), m_deepOf (by omega) hl, Option.bind_some, nI_clamp (by omega), m_pence64 hn ha]
    have e39 : h.2.2.2.1 39 0 j = mS h (52 + j) := (ht.2.2.2.2.2.1 j hjn).2.2.1
    have pe : f_B_penny a (nI j) all h = (if xib (nI j) 8 then (if ¬ all = 0 then f_B_penny_l27 a (nI j) all a 0 (a * h.2.2.2.1 39 0 (nI j).toNatClampNeg - a * h.2.2.2.1 39 0 (nI j).toNatClampNeg / all * all) 0 h else none) else none) := rfl
    rw [pe, if_pos (xibN (show j < 8 by omega) (by decide)), if_pos ha, nI_clamp (by omega), e39, c_penny27 hst ht n8 ha, Option.bind_some]
    exact ⟨_, rfl, rfl⟩
  · rw [if_neg hl, if_pos rfl, if_neg (fun z => hl (decide_eq_true z))]
    exact ⟨0, rfl, rfl⟩
