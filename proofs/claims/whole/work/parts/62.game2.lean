/-! PURE: game, of the reference -/
/-- only the reference's row has changed -/
def gmM (h h' : xH) : Prop := h'.1 = h.1 ∧ ∀ f i, ¬ (f = 63 ∧ i = 0) → h'.2.2.2.1 f i = h.2.2.2.1 f i
theorem m_bestOf {h : xH} {n s : Nat} {T : Nat → Int32} {U : Nat → Nat} (hn : mN h n) (hs : s < 256) (hU : ∀ k, k < n → mS h (36 + k) = nI (U k) ∧ U k < 256) (hT : ∀ k, s.testBit k = true → h.2.2.2.1 63 0 (s - 2 ^ k) = T (s - 2 ^ k)) (e0 : h.2.2.2.1 63 0 s = 0) : ∃ h2, f_M_bestOf (nI s) h = some (oI (fold (gmF (fun k => mS h (52 + k)) U T s) (0, none) n).2, h2) ∧ gmM h h2 ∧ h2.2.2.2.1 63 0 = upd (h.2.2.2.1 63 0) s (fold (gmF (fun k => mS h (52 + k)) U T s) (0, none) n).1 := by
  have h8 := hn.2
  have key := whl_cntE (step := fun q : Int32 × Int32 × xH => f_M_bestOf_s4 (nI s) q.1 q.2.1 q.2.2) n (fun k q => q.1 = oI (fold (gmF (fun k => mS h (52 + k)) U T s) (0, none) k).2 ∧ q.2.1 = nI k ∧ gmM h q.2.2 ∧ q.2.2.2.2.2.1 63 0 = upd (h.2.2.2.1 63 0) s (fold (gmF (fun k => mS h (52 + k)) U T s) (0, none) k).1) (fun x => ∃ h2, x = (oI (fold (gmF (fun k => mS h (52 + k)) U T s) (0, none) n).2, h2) ∧ gmM h h2 ∧ h2.2.2.2.1 63 0 = upd (h.2.2.2.1 63 0) s (fold (gmF (fun k => mS h (52 + k)) U T s) (0, none) n).1) ?_ ?_ (-1, 0, h) ⟨rfl, nI_0.symm, ⟨rfl, fun _ _ _ => rfl⟩, by
    show h.2.2.2.1 63 0 = upd (h.2.2.2.1 63 0) s 0
    rw [← e0, upd_id]⟩
  · obtain ⟨x, e, h2, rfl, r⟩ := key
    exact ⟨h2, e, r⟩
  · rintro k hk ⟨q1, q2, h'⟩ ⟨e1, e2, ⟨m1, m2⟩, m3⟩
    have e1 : q1 = oI (fold (gmF (fun k => mS h (52 + k)) U T s) (0, none) k).2 := e1
    have e2 : q2 = nI k := e2
    subst e1; subst e2
    left
    have hb := gm_lt (D := fun k => mS h (52 + k)) (U := U) (T := T) (s := s) k (by omega)
    show ∃ s', f_M_bestOf_s4 (nI s) (oI (fold (gmF (fun k => mS h (52 + k)) U T s) (0, none) k).2) (nI k) h' = some (Sum.inl s') ∧ s'.1 = oI (gmF (fun k => mS h (52 + k)) U T s k (fold (gmF (fun k => mS h (52 + k)) U T s) (0, none) k)).2 ∧ s'.2.1 = nI (k + 1) ∧ gmM h s'.2.2 ∧ s'.2.2.2.2.2.1 63 0 = upd (h.2.2.2.1 63 0) s (gmF (fun k => mS h (52 + k)) U T s k (fold (gmF (fun k => mS h (52 + k)) U T s) (0, none) k)).1
    have m3 : h'.2.2.2.1 63 0 = upd (h.2.2.2.1 63 0) s (fold (gmF (fun k => mS h (52 + k)) U T s) (0, none) k).1 := m3
    have m2 : ∀ f i, ¬ (f = 63 ∧ i = 0) → h'.2.2.2.1 f i = h.2.2.2.1 f i := m2
    have m1 : h'.1 = h.1 := m1
    generalize fold (gmF (fun k => mS h (52 + k)) U T s) (0, none) k = b at hb m3 ⊢
    have e56 : ∀ t, h'.2.2.2.1 56 0 t = mS h t := fun t => by rw [m2 56 0 (by omega)]
    have e3 : h'.2.2.2.1 56 0 ((3 : Int32)).toNatClampNeg = nI n := (e56 3).trans hn.1
    have keepS : gmM h h' := ⟨m1, m2⟩
    unfold f_M_bestOf_s4 gmF
    rw [e3, if_neg (nI_ge hk (by omega)), m_isOf hs (by omega), Option.bind_some]
    by_cases c1 : s.testBit k = true
    · have x36 : xib ((36 : Int32) + nI k) 101 := xibA (c := 36) (a := 36) rfl (by omega) (by decide)
      have x52 : xib ((52 : Int32) + nI k) 101 := xibA (c := 52) (a := 52) rfl (by omega) (by decide)
      have eu : ((h'.2.2.2.1 56 0 ((36 : Int32) + nI k).toNatClampNeg) &&& nI s = 0) ↔ U k &&& s = 0 := by
        rw [ixA (c := 36) (a := 36) rfl (by omega), e56, (hU k hk).1]
        exact sb_and0 _ (hU k hk).2 _ hs
      rw [if_pos c1, if_neg (by decide), if_pos x36]
      by_cases c2 : U k &&& s = 0
      · have q : s.testBit k = true ∧ U k &&& s = 0 := ⟨c1, c2⟩
        have e1 := sb_clr s hs k (by omega) c1
        have sl : s - 2 ^ k < 256 := Nat.lt_of_le_of_lt (Nat.sub_le _ _) hs
        have x1 : xib (nI s &&& (((1 : Int32) <<< (nI k &&& 31)) ^^^ (-1 : Int32))) 256 := by
          rw [e1]; exact xibN sl (by decide)
        have ne : s - 2 ^ k ≠ s := by
          have h1 := bit_ge c1
          have h2 : 0 < 2 ^ k := Nat.pos_of_ne_zero (by simp)
          omega
        have ew : (h'.2.2.2.1 56 0 ((52 : Int32) + nI k).toNatClampNeg) - (h'.2.2.2.1 63 0 (nI s &&& (((1 : Int32) <<< (nI k &&& 31)) ^^^ (-1 : Int32))).toNatClampNeg) = mS h (52 + k) - T (s - 2 ^ k) := by
          rw [e1, ixA (c := 52) (a := 52) rfl (by omega), nI_clamp (show s - 2 ^ k < 2 ^ 31 from Nat.lt_of_lt_of_le sl (by decide)), e56, m3, pk_un ne, hT k c1]
        have es : h'.2.2.2.1 63 0 (nI s).toNatClampNeg = b.1 := by
          rw [nI_clamp (by omega), m3, pk_us]
        have b81 : ∃ s', f_M_bestOf_b81 (nI s) (nI k) (mS h (52 + k) - T (s - 2 ^ k)) h' = some (Sum.inl s') ∧ s'.1 = oI (some k) ∧ s'.2.1 = nI (k + 1) ∧ gmM h s'.2.2 ∧ s'.2.2.2.2.2.1 63 0 = upd (h.2.2.2.1 63 0) s (mS h (52 + k) - T (s - 2 ^ k)) := by
          unfold f_M_bestOf_b81
          rw [if_pos (xibN hs (by decide)), nI_clamp (by omega)]
          refine ⟨_, rfl, rfl, nI_1 k, ⟨m1, fun f i hn => ?_⟩, ?_⟩
          · show (xsA h' 63 0 _).2.2.2.1 f i = _
            rw [rdA_n hn]; exact m2 f i hn
          · show (xsA h' 63 0 _).2.2.2.1 63 0 = _
            rw [rdA_s, m3, upd_2]
        rw [if_pos (eu.mpr c2), if_pos x52, if_pos x1, ew, xlet_e, if_pos q]
        by_cases c3 : b.2 = none
        · rw [if_pos ((oI_neg hb).mpr c3), if_pos (Or.inl c3)]
          exact b81
        · rw [if_neg (fun z => c3 ((oI_neg hb).mp z)), if_pos (xibN hs (by decide)), es]
          by_cases c4 : b.1 < mS h (52 + k) - T (s - 2 ^ k)
          · rw [if_pos c4, if_pos (Or.inr c4)]
            exact b81
          · rw [if_neg c4, if_neg (fun z => z.elim c3 c4)]
            exact ⟨_, rfl, rfl, nI_1 k, keepS, m3⟩
      · rw [if_neg (fun z => c2 (eu.mp z)), if_neg (fun z => c2 z.2)]
        exact ⟨_, rfl, rfl, nI_1 k, keepS, m3⟩
    · rw [if_neg c1, if_pos rfl, if_neg (fun z => c1 z.1)]
      exact ⟨_, rfl, rfl, nI_1 k, keepS, m3⟩
  · rintro ⟨q1, q2, h'⟩ ⟨e1, e2, m, m3⟩
    have e1 : q1 = oI (fold (gmF (fun k => mS h (52 + k)) U T s) (0, none) n).2 := e1
    have e2 : q2 = nI n := e2
    subst e1; subst e2
    have e3 : h'.2.2.2.1 56 0 ((3 : Int32)).toNatClampNeg = nI n := by
      rw [m.2 56 0 (by omega)]; exact hn.1
    refine ⟨_, ?_, h', rfl, m, m3⟩
    show f_M_bestOf_s4 (nI s) _ (nI n) h' = _
    unfold f_M_bestOf_s4
    rw [e3, if_pos (Int32.le_refl _)]
theorem m_game31 {h : xH} {n a : Nat} {U : Nat → Nat} {v1 : Int32} (hn : mN h n) (ha : a < 256) (hU : ∀ k, k < n → mS h (36 + k) = nI (U k) ∧ U k < 256) : ∃ h2, f_M_game_l31 v1 (nI a) (-1) 0 h = some (if v1 = 0 then (gmB (fun k => mS h (52 + k)) U n a).1 else oI (gmB (fun k => mS h (52 + k)) U n a).2, h2) ∧ gmM h h2 := by
  have key := whl_cntE (step := fun q : Int32 × Int32 × xH => f_M_game_s31 v1 (nI a) q.1 q.2.1 q.2.2) (a + 1) (fun s q => q.2.1 = nI s ∧ gmM h q.2.2 ∧ (∀ t, t < s → t &&& a = t → q.2.2.2.2.2.1 63 0 t = gmG (fun k => mS h (52 + k)) U n t) ∧ (a < s → q.1 = oI (gmB (fun k => mS h (52 + k)) U n a).2)) (fun x => ∃ h2, x = (if v1 = 0 then (gmB (fun k => mS h (52 + k)) U n a).1 else oI (gmB (fun k => mS h (52 + k)) U n a).2, h2) ∧ gmM h h2) ?_ ?_ (-1, 0, h) ⟨nI_0.symm, ⟨rfl, fun _ _ _ => rfl⟩, fun t ht => absurd ht (by omega), fun z => absurd z (by omega)⟩
  · obtain ⟨x, e, h2, rfl, r⟩ := key
    exact ⟨h2, e, r⟩
  · rintro s hs ⟨q1, q2, h'⟩ ⟨e2, ⟨m1, m2⟩, tT, tA⟩
    have e2 : q2 = nI s := e2
    subst e2
    have m1 : h'.1 = h.1 := m1
    have m2 : ∀ f i, ¬ (f = 63 ∧ i = 0) → h'.2.2.2.1 f i = h.2.2.2.1 f i := m2
    have tT : ∀ t, t < s → t &&& a = t → h'.2.2.2.1 63 0 t = gmG (fun k => mS h (52 + k)) U n t := tT
    left
    show ∃ s', f_M_game_s31 v1 (nI a) q1 (nI s) h' = some (Sum.inl s') ∧ _
    have s8 : s < 256 := by omega
    unfold f_M_game_s31
    rw [if_neg (nI_nlt (by omega) (by omega))]
    by_cases c1 : s &&& a = s
    · rw [if_pos ((sb_sub s s8 a ha).mpr c1), if_pos (xibN s8 (by decide)), nI_clamp (by omega), xlet_e]
      obtain ⟨g, eg⟩ : ∃ g, g = xsA h' 63 0 (upd (h'.2.2.2.1 63 0) s 0) := ⟨_, rfl⟩
      have g2 : ∀ f i, ¬ (f = 63 ∧ i = 0) → g.2.2.2.1 f i = h.2.2.2.1 f i := fun f i hn => by rw [eg, rdA_n hn]; exact m2 f i hn
      have eS : mS g = mS h := g2 56 0 (by omega)
      have g63 : g.2.2.2.1 63 0 = upd (h'.2.2.2.1 63 0) s 0 := by rw [eg, rdA_s]
      obtain ⟨h2, e2, ⟨t1, t2⟩, t3⟩ := m_bestOf (h := g) (T := gmG (fun k => mS h (52 + k)) U n) (U := U) (s := s) (n := n) ⟨by rw [eS]; exact hn.1, hn.2⟩ s8 (fun k hk => by rw [eS]; exact hU k hk) (fun k hk => by
        have h1 := bit_ge hk
        have h2 : 0 < 2 ^ k := Nat.pos_of_ne_zero (by simp)
        rw [g63, pk_un (by omega)]
        refine tT (s - 2 ^ k) (by omega) ?_
        have e : s - 2 ^ k = s &&& (255 ^^^ 2 ^ k) := by
          have d : ∀ s, s < 256 → ∀ k, k < 8 → s.testBit k = true → s - 2 ^ k = s &&& (255 ^^^ 2 ^ k) := by decide +kernel
          exact d s s8 k (bit_hi s8 hk) hk
        rw [e, Nat.and_assoc, Nat.and_comm _ a, ← Nat.and_assoc, c1]) (by rw [g63, pk_us])
      rw [eS] at e2 t3
      rw [← eg, e2, Option.bind_some]
      refine ⟨_, rfl, nI_1 s, ⟨t1.trans (by rw [eg]; exact m1), fun f i hn => (t2 f i hn).trans (g2 f i hn)⟩, fun t ht hta => ?_, fun z => ?_⟩
      · show h2.2.2.2.1 63 0 t = _
        rw [t3]
        by_cases e : t = s
        · subst e
          rw [pk_us]
          exact gmG_e.symm
        · rw [pk_un e, g63, pk_un e]
          exact tT t (by omega) hta
      · have : s = a := by omega
        subst this
        rfl
    · rw [if_neg (fun z => c1 ((sb_sub s s8 a ha).mp z))]
      refine ⟨_, rfl, nI_1 s, ⟨m1, m2⟩, fun t ht hta => ?_, fun z => ?_⟩
      · by_cases e : t = s
        · subst e; exact absurd hta c1
        · exact tT t (by omega) hta
      · by_cases e : s = a
        · subst e; exact absurd (Nat.and_self _) c1
        · exact tA (by omega)
  · rintro ⟨q1, q2, h'⟩ ⟨e2, m, tT, tA⟩
    have e2 : q2 = nI (a + 1) := e2
    subst e2
    have tA : q1 = oI (gmB (fun k => mS h (52 + k)) U n a).2 := tA (by omega)
    have tT : h'.2.2.2.1 63 0 a = gmG (fun k => mS h (52 + k)) U n a := tT a (by omega) (Nat.and_self _)
    show ∃ x, f_M_game_s31 v1 (nI a) q1 (nI (a + 1)) h' = some (Sum.inr x) ∧ _
    unfold f_M_game_s31 f_M_game_b70
    rw [if_pos (nI_lt (by omega) (by omega)), if_pos (xibN ha (by decide)), nI_clamp (by omega), tT, tA, gmG_e]
    by_cases c : v1 = 0
    · rw [if_pos c, if_pos c]
      exact ⟨_, rfl, h', rfl, m⟩
    · rw [if_neg c, if_neg c]
      exact ⟨_, rfl, h', rfl, m⟩
variable {Q : xH → Nat → Prop}
/-- game -/
theorem p_game (hQ : qOk Q) : lI_game (jII Q) := by
  rintro v h ⟨R, hR, r1, r2, hj, hq⟩
  have keep : jII Q h := ⟨R, hR, r1, r2, hj, hq⟩
  obtain ⟨n, m, c, ⟨hv, ht, hst, -⟩, -⟩ := hj.2.2.2
  obtain ⟨v0, -, -, -, v3, n8, -⟩ := id hv
  have hn : mN h n := ⟨v3, n8⟩
  have cl : f_B_game v h = (if h.1 8 0 0 = 0 then some (-1000, h) else if v < 0 then some (-1000, h) else if v ≤ 1 then (f_Sets_findGame 0 0 h).bind (fun h6 => if v = 0 then some (h6.1 5 6 0, h6) else some (h6.1 5 7 0, h6)) else some (-1000, h)) := rfl
  have rf : ∀ h1 : xH, f_M_game v h1 = (f_M_isTrug h1).bind (fun r1 => if r1 = 0 then some (-1000, h1) else (f_M_in v.toInt64 0 1 h1).bind (fun r4 => if r4 = 0 then some (-1000, h1) else (f_M_inside h1).bind (fun r7 => f_M_game_l31 v r7 (-1) 0 h1))) := fun _ => rfl
  have mi : ∀ h1 : xH, f_M_in v.toInt64 0 1 h1 = some (if v < 0 ∨ 1 < v then 0 else 1) := fun h1 => m_in v 0 1 (by decide) (by decide)
  by_cases z : mS h 0 = 0
  · exact ⟨-1000, h, h, by rw [cl, ht.1, if_pos z], by rw [rf, m_isTrug v0, Option.bind_some, if_pos z], keep⟩
  by_cases z0 : v < 0
  · exact ⟨-1000, h, h, by rw [cl, ht.1, if_neg z, if_pos z0], by rw [rf, m_isTrug v0, Option.bind_some, if_neg z, mi, if_pos (Or.inl z0)]; rfl, keep⟩
  by_cases z1 : ¬ v ≤ 1
  · exact ⟨-1000, h, h, by rw [cl, ht.1, if_neg z, if_neg z0, if_neg z1], by rw [rf, m_isTrug v0, Option.bind_some, if_neg z, mi, if_pos (Or.inr (Int32.not_le.mp z1))]; rfl, keep⟩
  have z1 : v ≤ 1 := Decidable.not_not.mp z1
  have hS := bs_lt8 (vIn (mS h)) n8
  have hSn : ∀ o, (bs (vIn (mS h)) n).testBit o = true → o < n := fun o ho => by
    by_cases hon : o < n
    · exact hon
    · rw [bs_hi (by omega)] at ho; cases ho
  have e62 : h.1 6 2 0 = nI (bs (vIn (mS h)) n) := hst.2.2.1
  have ein : ∀ h1 : xH, mS h1 = mS h → f_M_inside h1 = some (nI (bs (vIn (mS h)) n)) := fun h1 e => by
    rw [m_inside (n := n) ⟨by rw [e]; exact v3, n8⟩, mIn_v, e]
  generalize bs (vIn (mS h)) n = a at hS hSn e62 ein
  obtain ⟨g, eg, ⟨s1, s2⟩, g6, g7⟩ := c_findGame (h := h) (D := fun k => mS h (52 + k)) (U := uV (mS h)) n8 hS hSn e62 (fun k hk => ⟨((hst.2.2.2.2 k hk).2.1).trans (uV_e hv hk).1, (uV_e hv hk).2⟩) (fun k hk => (ht.2.2.2.2.2.1 k hk).2.2.1)
  have eS : mS g = mS h := s2 56 0 (by omega)
  obtain ⟨g2, eg2, t1, t2⟩ := m_game31 (h := g) (n := n) (a := a) (U := uV (mS h)) (v1 := v) ⟨by rw [eS]; exact v3, n8⟩ hS (fun k hk => by rw [eS]; exact uV_e hv hk)
  rw [eS] at eg2
  refine ⟨if v = 0 then (gmB (fun k => mS h (52 + k)) (uV (mS h)) n a).1 else oI (gmB (fun k => mS h (52 + k)) (uV (mS h)) n a).2, g, g2, ?_, ?_, sameJ_jII hQ ⟨fun c k i q => ?_, fun f i q => ?_⟩ keep⟩
  · rw [cl, ht.1, if_neg z, if_neg z0, if_pos z1, eg, Option.bind_some, g6, g7]
    split <;> rfl
  · rw [rf, m_isTrug (by rw [eS]; exact v0), Option.bind_some, eS, if_neg z, mi, if_neg (fun y => y.elim z0 (Int32.not_lt.mpr z1)), Option.bind_some, if_neg (by decide), ein _ eS, Option.bind_some, eg2]
  · rw [t1]
    exact s1 c k i (by unfold jF at q; omega)
  · rw [t2 f i (by unfold jG at q; omega)]
    exact s2 f i (by unfold jG at q; omega)
