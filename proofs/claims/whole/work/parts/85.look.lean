/-! PURE: look -/
def cntB (p : Nat → Bool) : Nat → Nat
  | 0 => 0
  | r + 1 => cntB p r + (if p r = true then 1 else 0)
theorem cntB_le (p : Nat → Bool) : ∀ r, cntB p r ≤ r
  | 0 => Nat.le_refl _
  | r + 1 => by
    have := cntB_le p r
    show cntB p r + (if p r = true then 1 else 0) ≤ r + 1
    split <;> omega
theorem cntB_mono (p : Nat → Bool) {r : Nat} : ∀ d, cntB p r ≤ cntB p (r + d)
  | 0 => Nat.le_refl _
  | d + 1 => Nat.le_trans (cntB_mono p d) (Nat.le_add_right _ _)
theorem cntB_lt {p : Nat → Bool} {r k : Nat} (hr : r < k) (hp : p r = true) : cntB p r < cntB p k := by
  have h1 : cntB p (r + 1) = cntB p r + 1 := by
    show cntB p r + (if p r = true then 1 else 0) = _
    rw [if_pos hp]
  have h2 := cntB_mono p (r := r + 1) (k - (r + 1))
  rw [show r + 1 + (k - (r + 1)) = k by omega] at h2
  omega
/-- a walk through those that fit -/
theorem fold_fit {σ : Type} {P : Nat → Bool} {T p : Nat → Nat → Int32} (F : (Nat → Int32) → σ → σ) {s0 : σ} : ∀ {m : Nat}, (∀ r, r < m → P r = true → ∀ s, F (p (cntB P r)) s = F (T r) s) → fold (fun i s => F (p i) s) s0 (cntB P m) = fold (fun r s => if P r = true then F (T r) s else s) s0 m
  | 0, _ => rfl
  | m + 1, hp => by
    have ih := fold_fit (P := P) (T := T) (p := p) F (s0 := s0) (m := m) (fun r hr => hp r (by omega))
    show fold (fun i s => F (p i) s) s0 (cntB P m + (if P m = true then 1 else 0)) = (if P m = true then F (T m) (fold (fun r s => if P r = true then F (T r) s else s) s0 m) else fold (fun r s => if P r = true then F (T r) s else s) s0 m)
    by_cases q : P m = true
    · rw [if_pos q, if_pos q, ← ih]
      show F (p (cntB P m)) _ = _
      exact hp m (by omega) q _
    · rw [if_neg q, if_neg q, ← ih]
      rfl
/-- how many of the first M are like x in step i -/
def cnI (p : Nat → Nat → Int32) (M i : Nat) (x : Nat → Int32) : Nat := fold (fun j c => if x i = p j i then c + 1 else c) 0 M
def alk (p : Nat → Nat → Int32) (M i : Nat) : Nat := fold (fun a m => max m (cnI p M i (p a))) 0 M
theorem cn_le {p : Nat → Nat → Int32} {i : Nat} {x : Nat → Int32} : ∀ M, cnI p M i x ≤ M
  | 0 => Nat.le_refl _
  | M + 1 => by
    have := cn_le (p := p) (i := i) (x := x) M
    show (if x i = p M i then cnI p M i x + 1 else cnI p M i x) ≤ M + 1
    split <;> omega
theorem cn_mono {p : Nat → Nat → Int32} {i : Nat} {x : Nat → Int32} {M : Nat} : ∀ d, cnI p M i x ≤ cnI p (M + d) i x
  | 0 => Nat.le_refl _
  | d + 1 => Nat.le_trans (cn_mono d) (by
    show _ ≤ (if x i = p (M + d) i then cnI p (M + d) i x + 1 else cnI p (M + d) i x)
    split <;> omega)
theorem al_le {p : Nat → Nat → Int32} {M i : Nat} : ∀ m, fold (fun a m => max m (cnI p M i (p a))) 0 m ≤ M
  | 0 => Nat.zero_le _
  | m + 1 => by
    have := al_le (p := p) (M := M) (i := i) m
    show max _ _ ≤ M
    exact Nat.max_le.mpr ⟨this, cn_le M⟩
theorem al_pos {p : Nat → Nat → Int32} {M i : Nat} (hM : 0 < M) : 1 ≤ alk p M i := by
  have key : ∀ m, 0 < m → 1 ≤ fold (fun a m => max m (cnI p M i (p a))) 0 m := by
    intro m hm
    induction m with
    | zero => omega
    | succ m ih =>
      show 1 ≤ max (fold (fun a m => max m (cnI p M i (p a))) 0 m) (cnI p M i (p m))
      by_cases q : m = 0
      · subst q
        have h1 : cnI p 1 i (p 0) = 1 := if_pos rfl
        have h2 := cn_mono (p := p) (i := i) (x := p 0) (M := 1) (M - 1)
        rw [show 1 + (M - 1) = M by omega, h1] at h2
        exact Nat.le_trans h2 (Nat.le_max_right _ _)
      · exact Nat.le_trans (ih (by omega)) (Nat.le_max_left _ _)
  exact key M hM
theorem c_max {h : xH} {a b : Nat} (ha : a < 2 ^ 31) (hb : b < 2 ^ 31) : f_Math_max (nI a) (nI b) h = some (nI (max a b)) := by
  show (if nI a < nI b then some (nI b) else some (nI a)) = _
  by_cases q : a < b
  · rw [if_pos (nI_lt q hb), Nat.max_eq_right (by omega)]
  · rw [if_neg (nI_nlt (by omega) ha), Nat.max_eq_left (by omega)]
theorem c_mostAlike {h : xH} {M i : Nat} {p : Nat → Nat → Int32} (hM : M ≤ 7) (hi : i < 61) (hp : ∀ a, a < M → h.2.2.2.1 46 0 (61 * a + i) = p a i) : f_B_mostAlike (nI M) (nI i) h = some (nI (alk p M i)) := by
  have ix : ∀ a, nI a * 61 + nI i = nI (61 * a + i) := fun a => by
    rw [show nI a * 61 = nI (a * 61) from pk_mul a 61, nI_add, Nat.mul_comm]
  have inner : ∀ (k w : Nat), k < M → w ≤ 7 → f_B_mostAlike_l24 (nI M) (nI i) (nI w) (nI k) 0 0 h = some (Sum.inl (nI (max w (cnI p M i (p k))), nI (k + 1))) := by
    intro k w hk hw
    refine whl_cnt (step := fun s : Int32 × Int32 => f_B_mostAlike_s24 (nI M) (nI i) (nI w) (nI k) s.1 s.2 h) M (fun j => (nI (cnI p j i (p k)), nI j)) _ (fun j hj => ?_) ?_
    · show f_B_mostAlike_s24 (nI M) (nI i) (nI w) (nI k) (nI (cnI p j i (p k))) (nI j) h = some (Sum.inl (nI (if p k i = p j i then cnI p j i (p k) + 1 else cnI p j i (p k)), nI (j + 1)))
      unfold f_B_mostAlike_s24 f_B_mostAlike_b67
      rw [if_neg (nI_ge hj (by omega)), if_neg (show ¬ (6 : Int32) < nI j from nI_nlt (a := 6) (b := j) (by omega) (by decide)), ix, ix, if_pos (xibN (by omega) (by decide)), if_pos (xibN (by omega) (by decide)), nI_clamp (by omega), nI_clamp (by omega), hp k hk, hp j hj, xlet_e, xlet_e, xlet_e, nI_1, nI_1]
      by_cases q : p k i = p j i
      · rw [if_pos q, if_pos q]
      · rw [if_neg q, if_neg q]
    · show f_B_mostAlike_s24 (nI M) (nI i) (nI w) (nI k) (nI (cnI p M i (p k))) (nI M) h = _
      have := cn_le (p := p) (i := i) (x := p k) M
      unfold f_B_mostAlike_s24 f_B_mostAlike_b73
      rw [if_pos (Int32.le_refl _), c_max (by omega) (by omega), Option.bind_some, xlet_e, nI_1]
      rfl
  refine whl_cnt (step := fun s : Int32 × Int32 => f_B_mostAlike_s5 (nI M) (nI i) s.1 s.2 h) M (fun k => (nI (fold (fun a m => max m (cnI p M i (p a))) 0 k), nI k)) _ (fun k hk => ?_) ?_
  · show f_B_mostAlike_s5 (nI M) (nI i) (nI (fold (fun a m => max m (cnI p M i (p a))) 0 k)) (nI k) h = _
    have := al_le (p := p) (M := M) (i := i) k
    unfold f_B_mostAlike_s5
    rw [if_neg (nI_ge hk (by omega)), if_neg (show ¬ (6 : Int32) < nI k from nI_nlt (a := 6) (b := k) (by omega) (by decide)), inner k _ hk (by omega)]
    rfl
  · show f_B_mostAlike_s5 (nI M) (nI i) (nI (fold (fun a m => max m (cnI p M i (p a))) 0 M)) (nI M) h = _
    unfold f_B_mostAlike_s5
    rw [if_pos (Int32.le_refl _)]
    rfl
/-- where to look -/
def bsG (A : Nat → Nat) (k : Nat) (s : Nat × Nat) : Nat × Nat := if A k < s.2 then (k, A k) else s
theorem bsG_e {A : Nat → Nat} {k : Nat} {s : Nat × Nat} : bsG A k s = if A k < s.2 then (k, A k) else s := rfl
theorem bs_b {A : Nat → Nat} {M : Nat} (hA : ∀ i, A i ≤ M) : ∀ k, (fold (bsG A) (0, M + 1) k).2 ≤ M + 1 ∧ (0 < k → (fold (bsG A) (0, M + 1) k).2 = A (fold (bsG A) (0, M + 1) k).1 ∧ (fold (bsG A) (0, M + 1) k).1 < k)
  | 0 => ⟨Nat.le_refl _, fun z => absurd z (by decide)⟩
  | k + 1 => by
    obtain ⟨h1, h2⟩ := bs_b hA k
    have e : fold (bsG A) (0, M + 1) (k + 1) = bsG A k (fold (bsG A) (0, M + 1) k) := rfl
    rw [e, bsG_e]
    by_cases q : A k < (fold (bsG A) (0, M + 1) k).2
    · rw [if_pos q]
      exact ⟨Nat.le_trans (hA k) (by omega), fun _ => ⟨rfl, Nat.lt_succ_self k⟩⟩
    · rw [if_neg q]
      refine ⟨h1, fun _ => ?_⟩
      by_cases z : k = 0
      · subst z
        exact absurd (show A 0 < M + 1 from Nat.lt_succ_of_le (hA 0)) q
      · obtain ⟨a, b⟩ := h2 (by omega)
        exact ⟨a, by omega⟩
theorem c_bestStep {h : xH} {M : Nat} {p : Nat → Nat → Int32} (hM : M ≤ 7) (hp : ∀ a, a < M → ∀ i, i < 61 → h.2.2.2.1 46 0 (61 * a + i) = p a i) : f_B_bestStepToLook (nI M) h = some (nI (fold (bsG (alk p M)) (0, M + 1) 61).1) := by
  have hA : ∀ i, alk p M i ≤ M := fun i => al_le M
  have key := whl_cnt (step := fun s : Int32 × Int32 × Int32 => f_B_bestStepToLook_s9 (nI M) s.1 s.2.1 s.2.2 h) 61 (fun k => (nI (fold (bsG (alk p M)) (0, M + 1) k).1, nI (fold (bsG (alk p M)) (0, M + 1) k).2, nI k)) (nI (fold (bsG (alk p M)) (0, M + 1) 61).1) (fun k hk => ?_) ?_
  · show f_B_bestStepToLook_l9 (nI M) 0 (nI M + 1) 0 h = _
    rw [nI_1]
    exact key
  · show f_B_bestStepToLook_s9 (nI M) (nI (fold (bsG (alk p M)) (0, M + 1) k).1) (nI (fold (bsG (alk p M)) (0, M + 1) k).2) (nI k) h = some (Sum.inl (nI (bsG (alk p M) k (fold (bsG (alk p M)) (0, M + 1) k)).1, nI (bsG (alk p M) k (fold (bsG (alk p M)) (0, M + 1) k)).2, nI (k + 1)))
    have h1 := (bs_b (A := alk p M) hA k).1
    have h2 := hA k
    unfold f_B_bestStepToLook_s9 f_B_bestStepToLook_b37
    rw [if_neg (show ¬ (61 : Int32) ≤ nI k from nI_ge (b := 61) hk (by decide)), c_mostAlike hM hk (fun a ha => hp a ha k hk), Option.bind_some, xlet_e, xlet_e, nI_1]
    rw [bsG_e]
    by_cases q : alk p M k < (fold (bsG (alk p M)) (0, M + 1) k).2
    · rw [if_neg (nI_ge q (by omega)), if_pos q]
    · rw [if_pos (nI_le (by omega) (by omega)), if_neg q]
  · show f_B_bestStepToLook_s9 (nI M) (nI (fold (bsG (alk p M)) (0, M + 1) 61).1) (nI (fold (bsG (alk p M)) (0, M + 1) 61).2) (nI 61) h = _
    unfold f_B_bestStepToLook_s9
    rw [if_pos (show (61 : Int32) ≤ nI 61 by decide)]
theorem wkA_46 {h : xH} {V : Nat → Int32} {n : Nat} {rl : Option Nat} {cs : List Cl} {A : Nat → Int32} (hw : wkA h V n rl cs) : wkA (xsA h 46 0 A) V n rl cs := by
  obtain ⟨⟨st, ⟨w1, w2, w3, w4, w5⟩, hst⟩, hv, hc⟩ := hw
  refine ⟨⟨st, ⟨stR_of (h := h) (fun k _ => rfl) (fun f _ _ k _ => by rw [rdA_n (by omega)]) w1, ⟨w2.1, w2.2.1, fun k hk => by rw [rdA_n (by omega)]; exact w2.2.2 k hk⟩, w3, w4, w5⟩, hst⟩, hv, clR_of (h := h) (fun k r => rfl) (fun r => by rw [rdA_n (by omega)]) hc⟩
theorem c_trace {h : xH} {n w : Nat} {V : Nat → Int32} {rl : Option Nat} {cs : List Cl} (hw7 : w < 7) (hw : wkA h V n rl cs) : ∃ h2, f_B_tracePath (nI w) h = some h2 ∧ lkF h h2 ∧ h2.2.2.2.1 46 0 = ltA (h.2.2.2.1 46 0) (fun i => oI (chV (wlk V n rl cs i) n rl cs)) w 61 := by
  have key := whl_cntE (step := fun s : Int32 × xH => f_B_tracePath_s13 (nI w) s.1 s.2) 61 (fun k s => s.1 = nI k ∧ wkA s.2 (wlk V n rl cs k) n rl cs ∧ lkF h s.2 ∧ s.2.2.2.2.1 46 0 = ltA (h.2.2.2.1 46 0) (fun i => oI (chV (wlk V n rl cs i) n rl cs)) w k) (fun h2 => lkF h h2 ∧ h2.2.2.2.1 46 0 = ltA (h.2.2.2.1 46 0) (fun i => oI (chV (wlk V n rl cs i) n rl cs)) w 61) ?_ ?_ (0, h) ⟨nI_0.symm, hw, lkF_refl h, ltA_0.symm⟩
  · obtain ⟨x, e, q⟩ := key
    refine ⟨x, ?_, q⟩
    show (if nI w < 0 then some h else if nI w ≤ 6 then f_B_tracePath_l13 (nI w) 0 h else some h) = _
    rw [if_neg (nI_pos (by omega)), if_pos (show nI w ≤ (6 : Int32) from nI_le (b := 6) (by omega) (by decide))]
    exact e
  · rintro k hk ⟨q1, g⟩ ⟨e1, wg, f, e46⟩
    have e1 : q1 = nI k := e1
    subst e1
    have wg : wkA g (wlk V n rl cs k) n rl cs := wg
    have f : lkF h g := f
    have e46 : g.2.2.2.1 46 0 = ltA (h.2.2.2.1 46 0) (fun i => oI (chV (wlk V n rl cs i) n rl cs)) w k := e46
    left
    obtain ⟨g2, eg2, w2, f2⟩ := c_goOn wg
    have w2 : wkA g2 (wlk V n rl cs (k + 1)) n rl cs := w2
    have ix : nI w * 61 + nI k = nI (61 * w + k) := by
      rw [show nI w * 61 = nI (w * 61) from pk_mul w 61, nI_add, Nat.mul_comm]
    have e2 : g2.2.2.2.1 46 0 = g.2.2.2.1 46 0 := f2.2 46 0 (by omega)
    refine ⟨(nI (k + 1), xsA g2 46 0 (upd (g2.2.2.2.1 46 0) (61 * w + k) (oI (chV (wlk V n rl cs k) n rl cs)))), ?_, rfl, wkA_46 w2, lkF_trans (lkF_trans f (lkF_w f2)) ⟨fun _ _ _ _ _ => rfl, fun f' i' _ q => rdA_n q⟩, ?_⟩
    · show f_B_tracePath_s13 (nI w) (nI k) g = _
      unfold f_B_tracePath_s13
      rw [if_neg (show ¬ (61 : Int32) ≤ nI k from nI_ge (b := 61) hk (by decide)), eg2, Option.bind_some, ix, if_pos (xibN (by omega) (by decide)), nI_clamp (by omega), xlet_e, xlet_e, nI_1]
    · show (xsA g2 46 0 _).2.2.2.1 46 0 = _
      rw [rdA_s, e2, e46]
      exact ltA_s (T := fun i => oI (chV (wlk V n rl cs i) n rl cs))
  · rintro ⟨q1, g⟩ ⟨e1, wg, f, e46⟩
    have e1 : q1 = nI 61 := e1
    subst e1
    refine ⟨g, ?_, f, e46⟩
    show f_B_tracePath_s13 (nI w) (nI 61) g = _
    unfold f_B_tracePath_s13
    rw [if_pos (show (61 : Int32) ≤ nI 61 by decide)]
theorem c_look28 {h : xH} {n m c R : Nat} {C : Nat → List Cl} (v : Int32) (hsc : scR h 0 (mS h) n m c) (hR : R ≤ 6) (r1 : h.1 11 5 0 = nI R) (hq : ∀ r, r < R → ruR h r (C r)) : ∃ h2, f_B_look_l28 v 0 (-1) h = f_B_look_b67 v (nI (cntB (Fit (mS h) n C c) (R + 1))) h2 ∧ lkF h h2 ∧ ∀ r, r < R + 1 → Fit (mS h) n C c r = true → ∀ i, i < 61 → h2.2.2.2.1 46 0 (61 * cntB (Fit (mS h) n C c) r + i) = Tr (mS h) n C r i := by
  have go : ∀ k, k ≤ R + 1 → ∃ g, f_B_look_l28 v 0 (-1) h = f_B_look_l28 v (nI (cntB (Fit (mS h) n C c) k)) (nI k - 1) g ∧ lkF h g ∧ ∀ r, r < k → Fit (mS h) n C c r = true → ∀ i, i < 61 → g.2.2.2.1 46 0 (61 * cntB (Fit (mS h) n C c) r + i) = Tr (mS h) n C r i := by
    intro k
    induction k with
    | zero => exact fun _ => ⟨h, rfl, lkF_refl h, fun r hr => absurd hr (by omega)⟩
    | succ k ih =>
      intro hk
      obtain ⟨g, eg, f, l⟩ := ih (by omega)
      have e11 : g.1 11 5 0 = nI R := (f.1 11 5 0 (by decide) (by decide)).trans r1
      have cmp : ¬ nI R ≤ nI k - 1 := by
        rw [Int32.le_iff_toInt_le, show (1 : Int32) = nI 1 from rfl, pk_sub_toInt (by omega) (by omega), nI_toInt (by omega)]
        omega
      obtain ⟨g1, g2, eg1, eg2, f2, w2⟩ := c_fit f hsc hR r1 hq (show k ≤ R by omega)
      have kk : nI k - 1 + 1 = nI (k + 1) - 1 := by
        rw [nI_pred]
        exact Int32.sub_add_cancel _ _
      have cl := cntB_le (Fit (mS h) n C c) k
      by_cases q : Fit (mS h) n C c k = true
      · obtain ⟨g3, eg3, w3, f3⟩ := c_fromBegin f2 hsc hR r1 hq (show k ≤ R by omega)
        obtain ⟨g4, eg4, f4, e46⟩ := c_trace (w := cntB (Fit (mS h) n C c) k) (by omega) w3
        have ec : cntB (Fit (mS h) n C c) (k + 1) = cntB (Fit (mS h) n C c) k + 1 := by
          show cntB (Fit (mS h) n C c) k + (if Fit (mS h) n C c k = true then 1 else 0) = _
          rw [if_pos q]
        have e463 : g3.2.2.2.1 46 0 = g.2.2.2.1 46 0 := by rw [f3.2 46 0 (by omega), w2.2 46 0 (by omega)]
        refine ⟨g4, ?_, lkF_trans (lkF_trans f2 (lkF_w f3)) f4, fun r hr hp i hi => ?_⟩
        · rw [eg]
          apply whl_st
          show f_B_look_s28 v (nI (cntB (Fit (mS h) n C c) k)) (nI k - 1) g = _
          unfold f_B_look_s28 f_B_look_b61
          rw [e11, if_neg cmp, eg1, Option.bind_some, eg2, Option.bind_some]
          show (if (if Fit (mS h) n C c k = true then (1 : Int32) else 0) = 0 then _ else (f_B_startFromBegin (nI k - 1) g2).bind _) = _
          rw [if_pos q, if_neg (by decide), eg3, Option.bind_some, eg4, Option.bind_some, xlet_e, xlet_e, nI_1, kk, ec]
        · rw [e46]
          unfold ltA
          by_cases z : r = k
          · subst z
            rw [if_pos (by omega)]
            show oI _ = oI _
            rw [show 61 * cntB (Fit (mS h) n C c) r + i - 61 * cntB (Fit (mS h) n C c) r = i by omega]
          · have := cntB_lt (p := Fit (mS h) n C c) (show r < k by omega) hp
            rw [if_neg (by omega), e463]
            exact l r (by omega) hp i hi
      · have ec : cntB (Fit (mS h) n C c) (k + 1) = cntB (Fit (mS h) n C c) k := by
          show cntB (Fit (mS h) n C c) k + (if Fit (mS h) n C c k = true then 1 else 0) = _
          rw [if_neg q]
          rfl
        refine ⟨g2, ?_, f2, fun r hr hp i hi => ?_⟩
        · rw [eg]
          apply whl_st
          show f_B_look_s28 v (nI (cntB (Fit (mS h) n C c) k)) (nI k - 1) g = _
          unfold f_B_look_s28 f_B_look_b61
          rw [e11, if_neg cmp, eg1, Option.bind_some, eg2, Option.bind_some]
          show (if (if Fit (mS h) n C c k = true then (1 : Int32) else 0) = 0 then _ else _) = _
          rw [if_neg q, if_pos rfl, xlet_e, kk, ec]
        · by_cases z : r = k
          · subst z; exact absurd hp q
          · rw [w2.2 46 0 (by omega)]
            exact l r (by omega) hp i hi
  obtain ⟨g, eg, f, l⟩ := go (R + 1) (Nat.le_refl _)
  refine ⟨g, ?_, f, l⟩
  have e11 : g.1 11 5 0 = nI R := (f.1 11 5 0 (by decide) (by decide)).trans r1
  rw [eg]
  unfold f_B_look_l28
  rw [whl_eq]
  show ((f_B_look_s28 v (nI (cntB (Fit (mS h) n C c) (R + 1))) (nI (R + 1) - 1) g).bind _) = _
  unfold f_B_look_s28
  rw [e11, nI_pred, if_pos (Int32.le_refl _)]
  cases f_B_look_b67 v (nI (cntB (Fit (mS h) n C c) (R + 1))) g with
  | none => rfl
  | some x => rfl
/-! the reference's side -/
def cnR (P : Nat → Bool) (T : Nat → Nat → Int32) (K i : Nat) (x : Nat → Int32) : Nat := fold (fun b c => if P b = true then (if x i = T b i then c + 1 else c) else c) 0 K
def alR (P : Nat → Bool) (T : Nat → Nat → Int32) (K i : Nat) : Nat := fold (fun a m => if P a = true then max m (cnR P T K i (T a)) else m) 0 K
theorem cnR_e {P : Nat → Bool} {T p : Nat → Nat → Int32} {K i : Nat} {x : Nat → Int32} (hp : ∀ r, r < K → P r = true → p (cntB P r) i = T r i) : cnI p (cntB P K) i x = cnR P T K i x :=
  fold_fit (fun y c => if x i = y i then c + 1 else c) (fun r hr q s => by
    show (if x i = p (cntB P r) i then s + 1 else s) = (if x i = T r i then s + 1 else s)
    rw [hp r hr q])
theorem alR_e {P : Nat → Bool} {T p : Nat → Nat → Int32} {K i : Nat} (hp : ∀ r, r < K → P r = true → p (cntB P r) i = T r i) : alk p (cntB P K) i = alR P T K i := by
  unfold alk alR
  have := fold_fit (P := P) (T := T) (p := p) (fun y m => max m (cnI p (cntB P K) i y)) (s0 := 0) (m := K) (fun r hr q s => by
    show max s (cnI p (cntB P K) i (p (cntB P r))) = max s (cnI p (cntB P K) i (T r))
    unfold cnI
    rw [hp r hr q])
  rw [this]
  exact fold_congr (fun a ha t => by
    by_cases q : P a = true
    · rw [if_pos q, if_pos q, cnR_e hp]
    · rw [if_neg q, if_neg q])
theorem cnR_le {P : Nat → Bool} {T : Nat → Nat → Int32} {i : Nat} {x : Nat → Int32} : ∀ K, cnR P T K i x ≤ K
  | 0 => Nat.le_refl _
  | K + 1 => by
    have := cnR_le (P := P) (T := T) (i := i) (x := x) K
    show (if P K = true then (if x i = T K i then cnR P T K i x + 1 else cnR P T K i x) else cnR P T K i x) ≤ K + 1
    split
    · split <;> omega
    · omega
theorem alR_le {P : Nat → Bool} {T : Nat → Nat → Int32} {K i : Nat} : ∀ m, fold (fun a m => if P a = true then max m (cnR P T K i (T a)) else m) 0 m ≤ K
  | 0 => Nat.zero_le _
  | m + 1 => by
    have := alR_le (P := P) (T := T) (K := K) (i := i) m
    show (if P m = true then max _ _ else _) ≤ K
    split
    · exact Nat.max_le.mpr ⟨this, cnR_le K⟩
    · exact this
theorem m_alikeAt {h : xH} {R i : Nat} {P : Nat → Bool} {T : Nat → Nat → Int32} (hR : R ≤ 6) (hi : i < 61) (r2 : h.1 12 2 0 = nI R) (hf : ∀ r, r ≤ R → h.2.2.2.1 64 0 r = (if P r = true then 1 else 0) ∧ ∀ i, i < 61 → h.2.2.2.1 65 0 (61 * r + i) = T r i) : f_M_alikeAt (nI i) h = some (nI (alR P T (R + 1) i)) := by
  have ix : ∀ a, (61 : Int32) * nI a + nI i = nI (61 * a + i) := fun a => by
    rw [show (61 : Int32) * nI a = nI (61 * a) from pk_mul 61 a, nI_add]
  have b88 : ∀ (k w x : Nat), k ≤ 7 → w ≤ 7 → x ≤ 7 → f_M_alikeAt_b88 (nI i) (nI w) (nI k) (nI x) h = some (Sum.inl (nI (max w x), nI (k + 1))) := by
    intro k w x hk hw hx
    unfold f_M_alikeAt_b88 f_M_alikeAt_b100
    rw [xlet_e, xlet_e, nI_1]
    by_cases q : x ≤ w
    · rw [if_pos (nI_le q (by omega)), Nat.max_eq_left q]
    · rw [if_neg (nI_ge (by omega) (by omega)), Nat.max_eq_right (by omega)]
  have inner : ∀ (k w : Nat), k ≤ R → w ≤ 7 → f_M_alikeAt_l18 (nI i) (nI w) (nI k) 0 0 h = some (Sum.inl (nI (if P k = true then max w (cnR P T (R + 1) i (T k)) else w), nI (k + 1))) := by
    intro k w hk hw
    by_cases qk : P k = true
    · rw [if_pos qk]
      refine whl_cnt (step := fun s : Int32 × Int32 => f_M_alikeAt_s18 (nI i) (nI w) (nI k) s.1 s.2 h) (R + 1) (fun j => (nI (cnR P T j i (T k)), nI j)) _ (fun j hj => ?_) ?_
      · show f_M_alikeAt_s18 (nI i) (nI w) (nI k) (nI (cnR P T j i (T k))) (nI j) h = some (Sum.inl (nI (if P j = true then (if T k i = T j i then cnR P T j i (T k) + 1 else cnR P T j i (T k)) else cnR P T j i (T k)), nI (j + 1)))
        unfold f_M_alikeAt_s18 f_M_alikeAt_b78 f_M_alikeAt_b79
        rw [r2, if_neg (nI_nlt (by omega) (by omega)), if_pos (xibN (by omega) (by decide)), nI_clamp (by omega), (hf k hk).1, if_pos qk, if_neg (by decide), if_pos (xibN (by omega) (by decide)), nI_clamp (by omega), (hf j (by omega)).1, ix, ix, if_pos (xibN (by omega) (by decide)), if_pos (xibN (by omega) (by decide)), nI_clamp (by omega), nI_clamp (by omega), (hf k hk).2 i hi, (hf j (by omega)).2 i hi, xlet_e, xlet_e, xlet_e, xlet_e, nI_1, nI_1]
        by_cases qj : P j = true
        · rw [if_pos qj, if_neg (by decide), if_pos qj]
          by_cases q : T k i = T j i
          · rw [if_pos q, if_pos q]
          · rw [if_neg q, if_neg q]
            show some (Sum.inl (nI (cnR P T j i (T k)) + nI 0, nI (j + 1))) = _
            rw [nI_add]
            rfl
        · rw [if_neg qj, if_pos rfl, if_neg qj]
          show some (Sum.inl (nI (cnR P T j i (T k)) + nI 0, nI (j + 1))) = _
          rw [nI_add]
          rfl
      · show f_M_alikeAt_s18 (nI i) (nI w) (nI k) (nI (cnR P T (R + 1) i (T k))) (nI (R + 1)) h = _
        have := cnR_le (P := P) (T := T) (i := i) (x := T k) (R + 1)
        unfold f_M_alikeAt_s18
        rw [r2, if_pos (nI_lt (by omega) (by omega)), b88 k w _ (by omega) hw (by omega)]
        rfl
    · rw [if_neg qk]
      apply whl_en
      show f_M_alikeAt_s18 (nI i) (nI w) (nI k) (nI 0) (nI 0) h = _
      unfold f_M_alikeAt_s18
      rw [r2, if_neg (nI_nlt (by omega) (by omega)), if_pos (xibN (by omega) (by decide)), nI_clamp (by omega), (hf k hk).1, if_neg qk, if_pos rfl, b88 k w 0 (by omega) hw (by omega), Nat.max_eq_left (by omega)]
      rfl
  refine whl_cnt (step := fun s : Int32 × Int32 => f_M_alikeAt_s4 (nI i) s.1 s.2 h) (R + 1) (fun k => (nI (fold (fun a m => if P a = true then max m (cnR P T (R + 1) i (T a)) else m) 0 k), nI k)) _ (fun k hk => ?_) ?_
  · show f_M_alikeAt_s4 (nI i) (nI (fold (fun a m => if P a = true then max m (cnR P T (R + 1) i (T a)) else m) 0 k)) (nI k) h = _
    have := alR_le (P := P) (T := T) (K := R + 1) (i := i) k
    unfold f_M_alikeAt_s4
    rw [r2, if_neg (nI_nlt (by omega) (by omega)), inner k _ (by omega) (by omega)]
    rfl
  · show f_M_alikeAt_s4 (nI i) (nI (fold (fun a m => if P a = true then max m (cnR P T (R + 1) i (T a)) else m) 0 (R + 1))) (nI (R + 1)) h = _
    unfold f_M_alikeAt_s4
    rw [r2, if_pos (nI_lt (by omega) (by omega))]
    rfl
def lkG (A : Nat → Nat) (k : Nat) (s : Int32 × Int32) : Int32 × Int32 := if A k = 0 then s else if s.1 < 0 then (nI k, nI (A k)) else if nI (A k) < s.2 then (nI k, nI (A k)) else s
theorem m_look32 {h : xH} {A : Nat → Nat} (v : Int32) (hA : ∀ i, i < 61 → f_M_alikeAt (nI i) h = some (nI (A i)) ∧ A i ≤ 7) : f_M_look_l32 v (-2) (-2) 0 h = some (if v = 0 then (fold (lkG A) (-2, -2) 61).1 else (fold (lkG A) (-2, -2) 61).2, h) := by
  refine whl_cnt (step := fun s : Int32 × Int32 × Int32 => f_M_look_s32 v s.1 s.2.1 s.2.2 h) 61 (fun k => ((fold (lkG A) (-2, -2) k).1, (fold (lkG A) (-2, -2) k).2, nI k)) _ (fun k hk => ?_) ?_
  · show f_M_look_s32 v (fold (lkG A) (-2, -2) k).1 (fold (lkG A) (-2, -2) k).2 (nI k) h = some (Sum.inl ((lkG A k (fold (lkG A) (-2, -2) k)).1, (lkG A k (fold (lkG A) (-2, -2) k)).2, nI (k + 1)))
    obtain ⟨eA, lA⟩ := hA k hk
    generalize fold (lkG A) (-2, -2) k = s
    unfold f_M_look_s32 f_M_look_b65 f_M_look_b71 lkG
    rw [if_neg (show ¬ (60 : Int32) < nI k from nI_nlt (a := 60) (b := k) (by omega) (by decide)), eA, Option.bind_some, xlet_e, xlet_e, nI_1]
    by_cases q : A k = 0
    · rw [if_pos q, q, if_pos (show nI 0 = 0 from nI_0)]
    · rw [if_neg q, if_neg (nI_ne0 (by omega) (by omega))]
      by_cases q1 : s.1 < 0
      · rw [if_pos q1, if_pos q1]
      · rw [if_neg q1, if_neg q1]
        by_cases q2 : nI (A k) < s.2
        · rw [if_pos q2, if_pos q2]
        · rw [if_neg q2, if_neg q2]
  · show f_M_look_s32 v (fold (lkG A) (-2, -2) 61).1 (fold (lkG A) (-2, -2) 61).2 (nI 61) h = _
    unfold f_M_look_s32 f_M_look_b77
    rw [if_pos (show (60 : Int32) < nI 61 by decide)]
    by_cases q : v = 0
    · rw [if_pos q, if_pos q]; rfl
    · rw [if_neg q, if_neg q]; rfl
theorem lk_0 {A : Nat → Nat} (hA : ∀ i, A i = 0) : ∀ k, fold (lkG A) (-2, -2) k = (-2, -2)
  | 0 => rfl
  | k + 1 => by
    show lkG A k (fold (lkG A) (-2, -2) k) = _
    rw [lk_0 hA k]
    exact if_pos (hA k)
theorem lkb_e {A : Nat → Nat} {M : Nat} (hM : M ≤ 7) (hA : ∀ i, 1 ≤ A i ∧ A i ≤ M) : ∀ k, k < 100 → fold (lkG A) (-2, -2) (k + 1) = (nI (fold (bsG A) (0, M + 1) (k + 1)).1, nI (fold (bsG A) (0, M + 1) (k + 1)).2)
  | 0 => fun _ => by
    have h0 := hA 0
    show lkG A 0 (-2, -2) = (nI (bsG A 0 (0, M + 1)).1, nI (bsG A 0 (0, M + 1)).2)
    unfold lkG bsG
    rw [if_neg (by omega), if_pos (by decide), if_pos (show A 0 < M + 1 by omega)]
  | k + 1 => fun k100 => by
    have ih := lkb_e hM hA k (by omega)
    have hk := hA (k + 1)
    obtain ⟨b1, b2⟩ := bs_b (A := A) (M := M) (fun i => (hA i).2) (k + 1)
    show lkG A (k + 1) (fold (lkG A) (-2, -2) (k + 1)) = (nI (bsG A (k + 1) (fold (bsG A) (0, M + 1) (k + 1))).1, nI (bsG A (k + 1) (fold (bsG A) (0, M + 1) (k + 1))).2)
    rw [ih]
    generalize fold (bsG A) (0, M + 1) (k + 1) = s at b1 b2
    have := (b2 (by omega)).2
    unfold lkG bsG
    rw [if_neg (by omega), if_neg (nI_pos (by omega))]
    by_cases q : A (k + 1) < s.2
    · rw [if_pos (nI_lt q (by omega)), if_pos q]
    · rw [if_neg (nI_nlt (by omega) (by omega)), if_neg q]
theorem p_look : lI_look (jII Qr) := by
  intro a h hj
  obtain ⟨n, m, c, R, C, hsc, hR, r1, r2, hq⟩ := all_pre hj
  obtain ⟨hv, ht, hst, -, -⟩ := id hsc
  obtain ⟨v0, -⟩ := id hv
  have rf : ∀ h1 : xH, f_M_look a h1 = (f_M_isTrug h1).bind (fun r1 => if r1 = 0 then some (-1, h1) else (f_M_in a.toInt64 0 1 h1).bind (fun r4 => if r4 = 0 then some (-1, h1) else (f_M_fillsFits h1).bind (fun h9 => f_M_look_l32 a (-2) (-2) 0 h9))) := fun _ => rfl
  have cl : f_B_look a h = (if h.1 8 0 0 = 0 then some (-1, h) else if a < 0 then some (-1, h) else if a ≤ 1 then f_B_look_l28 a 0 (-1) h else some (-1, h)) := rfl
  have ma : ∀ h1 : xH, f_M_in a.toInt64 0 1 h1 = some (if a < 0 ∨ 1 < a then 0 else 1) := fun h1 => m_in a 0 1 (by decide) (by decide)
  by_cases z : mS h 0 = 0
  · exact ⟨-1, h, h, by rw [cl, ht.1, if_pos z], by rw [rf, m_isTrug v0, Option.bind_some, if_pos z], hj⟩
  by_cases a0 : a < 0
  · exact ⟨-1, h, h, by rw [cl, ht.1, if_neg z, if_pos a0], by rw [rf, m_isTrug v0, Option.bind_some, if_neg z, ma, if_pos (Or.inl a0)]; rfl, hj⟩
  by_cases a1 : ¬ a ≤ 1
  · exact ⟨-1, h, h, by rw [cl, ht.1, if_neg z, if_neg a0, if_neg a1], by rw [rf, m_isTrug v0, Option.bind_some, if_neg z, ma, if_pos (Or.inr (Int32.not_le.mp a1))]; rfl, hj⟩
  have a1 : a ≤ 1 := Decidable.not_not.mp a1
  obtain ⟨g1, eg1, f1, hp⟩ := c_look28 a hsc hR r1 hq
  obtain ⟨eS, sc⟩ := scR_l f1 hsc
  have hq2 : ∀ r, r < R → mcR g1 r 0 0 (C r) := fun r hr => mcR_of2 (f1.2 48 0 (by omega) (by omega)) (f1.2 50 0 (by omega) (by omega)) (f1.2 51 0 (by omega) (by omega)) (hq r hr).1
  have r2' : g1.1 12 2 0 = nI R := (f1.1 12 2 0 (by decide) (by decide)).trans r2
  obtain ⟨k2, ek2, j2, hf⟩ := m_fillsFits (h := g1) (n := n) (m := m) (c := c) (R := R) (C := C) (by rw [eS]; exact hv) hR r2' hq2
  rw [eS] at hf
  have k12 : k2.1 12 2 0 = nI R := (j2.1 12 2 0 (by unfold jF; omega)).trans r2'
  obtain ⟨P, hP⟩ : ∃ P, P = Fit (mS h) n C c := ⟨_, rfl⟩
  rw [← hP] at hf hp eg1
  obtain ⟨M, hM⟩ : ∃ M, M = cntB P (R + 1) := ⟨_, rfl⟩
  have M7 : M ≤ 7 := by
    have := cntB_le P (R + 1)
    omega
  rw [← hM] at eg1
  have eA : ∀ i, i < 61 → alR P (Tr (mS h) n C) (R + 1) i = alk (fun x i => g1.2.2.2.1 46 0 (61 * x + i)) M i := fun i hi => by
    rw [hM]
    exact (alR_e (fun r hr q => hp r hr q i hi)).symm
  have mA : ∀ i, i < 61 → f_M_alikeAt (nI i) k2 = some (nI (alk (fun x i => g1.2.2.2.1 46 0 (61 * x + i)) M i)) ∧ alk (fun x i => g1.2.2.2.1 46 0 (61 * x + i)) M i ≤ 7 := fun i hi => by
    rw [← eA i hi]
    refine ⟨m_alikeAt hR hi k12 hf, ?_⟩
    have := alR_le (P := P) (T := Tr (mS h) n C) (K := R + 1) (i := i) (R + 1)
    exact Nat.le_trans this (by omega)
  have mL := m_look32 a mA
  have fin : ∀ r : Int32, f_B_look_b67 a (nI M) g1 = some (r, g1) → f_M_look_l32 a (-2) (-2) 0 k2 = some (r, k2) → ∃ r h1 h2, f_B_look a h = some (r, h1) ∧ f_M_look a h1 = some (r, h2) ∧ jII Qr h2 := by
    intro r e1 e2
    refine ⟨r, g1, k2, ?_, ?_, sameJ_jII Qr_ok (sameJ_trans (lkF_J f1) j2) hj⟩
    · rw [cl, ht.1, if_neg z, if_neg a0, if_pos a1, eg1, e1]
    · rw [rf, m_isTrug (by rw [eS]; exact v0), Option.bind_some, eS, if_neg z, ma, if_neg (fun y => y.elim a0 (Int32.not_lt.mpr a1)), Option.bind_some, if_neg (by decide), ek2, Option.bind_some, e2]
  by_cases M0 : M = 0
  · refine fin (-2) ?_ ?_
    · unfold f_B_look_b67
      rw [M0, if_pos (show nI 0 = 0 from nI_0)]
    · rw [mL, lk_0 (A := alk (fun x i => g1.2.2.2.1 46 0 (61 * x + i)) M) (fun i => by rw [M0]; rfl)]
      by_cases q : a = 0
      · rw [if_pos q]
      · rw [if_neg q]
  · have hA : ∀ i, 1 ≤ alk (fun x i => g1.2.2.2.1 46 0 (61 * x + i)) M i ∧ alk (fun x i => g1.2.2.2.1 46 0 (61 * x + i)) M i ≤ M := fun i => ⟨al_pos (by omega), al_le M⟩
    have hb := (bs_b (A := alk (fun x i => g1.2.2.2.1 46 0 (61 * x + i)) M) (M := M) (fun i => (hA i).2) 61).2 (by decide)
    have hl := lkb_e M7 hA 60 (by decide)
    have hl : fold (lkG (alk (fun x i => g1.2.2.2.1 46 0 (61 * x + i)) M)) (-2, -2) 61 = _ := hl
    rw [hl] at mL
    have cb := c_bestStep (h := g1) (M := M) (p := fun x i => g1.2.2.2.1 46 0 (61 * x + i)) M7 (fun a ha i hi => rfl)
    have cm := c_mostAlike (h := g1) (M := M) (i := (fold (bsG (alk (fun x i => g1.2.2.2.1 46 0 (61 * x + i)) M)) (0, M + 1) 61).1) (p := fun x i => g1.2.2.2.1 46 0 (61 * x + i)) M7 hb.2 (fun a ha => rfl)
    refine fin _ ?_ mL
    unfold f_B_look_b67
    rw [if_neg (nI_ne0 (by omega) (by omega)), cb, Option.bind_some, cm, Option.bind_some]
    by_cases q : a = 0
    · rw [if_pos q, if_pos q]
    · rw [if_neg q, if_neg q, ← hb.1]
