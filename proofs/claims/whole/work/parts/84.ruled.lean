/-! PURE: by which rule; ruled -/
def rlO : Nat → Option Nat
  | 0 => none
  | r + 1 => some r
def csO (C : Nat → List Cl) : Nat → List Cl
  | 0 => []
  | r + 1 => C r
theorem rlO_lt {x R : Nat} (hx : x ≤ R) : ∀ r, rlO x = some r → r < R := by
  intro r hr
  cases x with
  | zero => cases hr
  | succ x => cases hr; omega
theorem oO : ∀ x, nI x - 1 = oI (rlO x)
  | 0 => by decide
  | x + 1 => nI_pred x
noncomputable def Fit (V : Nat → Int32) (n : Nat) (C : Nat → List Cl) (c r : Nat) : Bool := aS (bgV V) n (rlO r) (csO C r) c
def Tr (V : Nat → Int32) (n : Nat) (C : Nat → List Cl) (r i : Nat) : Int32 := oI (chV (wlk (bgV V) n (rlO r) (csO C r) i) n (rlO r) (csO C r))
theorem all_pre {h : xH} (hj : jII Qr h) : ∃ n m c R, ∃ C : Nat → List Cl, scR h 0 (mS h) n m c ∧ R ≤ 6 ∧ h.1 11 5 0 = nI R ∧ h.1 12 2 0 = nI R ∧ ∀ r, r < R → ruR h r (C r) := by
  obtain ⟨R, hR, r1, r2, ⟨ht, hf, him, n, m, c, hsc, hpa⟩, hq⟩ := hj
  refine ⟨n, m, c, R, fun r => @dite _ (r < R) (Nat.decLt r R) (fun q => Classical.choose (hq r q)) (fun _ => []), hsc, hR, r1, r2, fun r hr => ?_⟩
  show ruR h r (@dite _ (r < R) (Nat.decLt r R) (fun q => Classical.choose (hq r q)) (fun _ => []))
  rw [dif_pos hr]
  exact Classical.choose_spec (hq r hr)
theorem cl_all {h : xH} {R x : Nat} {C : Nat → List Cl} (hR : R ≤ 6) (hq : ∀ r, r < R → ruR h r (C r)) (hx : x ≤ R) : clR h (rlO x) (csO C x) := by
  intro r hr
  cases x with
  | zero => cases hr
  | succ x =>
    cases hr
    obtain ⟨a1, a2, a3, a4⟩ := hq r (by omega)
    exact ⟨by omega, a2, a4⟩
theorem mc_all {h : xH} {R x : Nat} {C : Nat → List Cl} (hR : R ≤ 6) (hq : ∀ r, r < R → mcR h r 0 0 (C r)) (hx : x ≤ R) : ∀ r, rlO x = some r → r < 6 ∧ mcR h r 0 0 (csO C x) := by
  intro r hr
  cases x with
  | zero => cases hr
  | succ x =>
    cases hr
    exact ⟨by omega, hq r (by omega)⟩
theorem bg_o {V W : Nat → Int32} (ho : ∀ t, ¬ (10 ≤ t ∧ t < 44) → W t = V t) : bgV W = bgV V := by
  have := bg_ti (V := V) (W := W) (j := 0) (x := V 44) (by decide) (fun t h1 _ => ho t h1)
  have e1 : upd W (44 + 0) (V 44) = W := by
    rw [← ho 44 (by omega)]
    exact upd_id
  have e2 : upd (bgV V) (44 + 0) (V 44) = bgV V := by
    have : V 44 = bgV V (44 + 0) := (bgV_lo (by omega)).symm
    rw [this]
    exact upd_id
  rw [e1, e2] at this
  exact this
/-- a walk, and paths traced -/
def lkF (h h' : xH) : Prop := (∀ c k i, ¬ c = 10 → ¬ (c = 6 ∧ i = 25) → h'.1 c k i = h.1 c k i) ∧ ∀ f i, ¬ (29 ≤ f ∧ f ≤ 32 ∧ i = 25) → ¬ (f = 46 ∧ i = 0) → h'.2.2.2.1 f i = h.2.2.2.1 f i
theorem lkF_refl (h : xH) : lkF h h := ⟨fun _ _ _ _ _ => rfl, fun _ _ _ _ => rfl⟩
theorem lkF_w {h h' : xH} (a : wkF h h') : lkF h h' := ⟨a.1, fun f i q _ => a.2 f i q⟩
theorem lkF_trans {h h1 h2 : xH} (a : lkF h h1) (b : lkF h1 h2) : lkF h h2 := ⟨fun c k i p q => (b.1 c k i p q).trans (a.1 c k i p q), fun f i q r => (b.2 f i q r).trans (a.2 f i q r)⟩
theorem lkF_J {h h' : xH} (a : lkF h h') : sameJ h h' := ⟨fun c k i q => a.1 c k i (by unfold jF at q; omega) (by unfold jF at q; omega), fun f i q => a.2 f i (by unfold jG at q; omega) (by unfold jG at q; omega)⟩
theorem scR_l {h h1 : xH} {n m c : Nat} (f : lkF h h1) (hsc : scR h 0 (mS h) n m c) : mS h1 = mS h ∧ scR h1 0 (mS h) n m c := by
  refine ⟨f.2 56 0 (by omega) (by omega), ?_⟩
  exact scR_of (W := mS h) (fun k _ => f.1 8 k 0 (by decide) (by omega)) (fun k _ => f.1 6 k 0 (by decide) (by omega)) (f.1 4 4 0 (by decide) (by decide)) (fun g h1 h2 k _ => by rw [f.2 g 0 (by omega) (by omega)]) (fun k _ => by rw [f.2 41 0 (by omega) (by omega)]) (fun g h1 h2 k _ => by rw [f.2 g 0 (by omega) (by omega)]) (fun g hg k _ => by rw [f.2 g 0 (by omega) (by omega)]) (fun _ _ => rfl) hsc
theorem clR_l {h h1 : xH} {rl : Option Nat} {cs : List Cl} (f : lkF h h1) (hc : clR h rl cs) : clR h1 rl cs := clR_of (fun k r => f.1 2 k r (by decide) (by omega)) (fun r => f.2 18 r (by omega) (by omega)) hc
/-- the class begins anew by a rule -/
theorem c_fromBegin {h g : xH} {n m c R x : Nat} {C : Nat → List Cl} (f : lkF h g) (hsc : scR h 0 (mS h) n m c) (hR : R ≤ 6) (r1 : h.1 11 5 0 = nI R) (hq : ∀ r, r < R → ruR h r (C r)) (hx : x ≤ R) : ∃ g1, f_B_startFromBegin (nI x - 1) g = some g1 ∧ wkA g1 (bgV (mS h)) n (rlO x) (csO C x) ∧ wkF g g1 := by
  obtain ⟨eS, sc⟩ := scR_l f hsc
  obtain ⟨g1, e1, w1, f1, -⟩ := c_startAnew (h := g) sc.1 sc.2.1 (clR_l f (cl_all hR hq hx))
  refine ⟨g1, ?_, w1, f1⟩
  show (f_B_ruleNumbered (nI x - 1) g).bind (fun r1 => (f_Walk_startAnew 0 r1 g).bind (fun h5 => some h5)) = _
  rw [oO, c_ruleNumbered hR ((f.1 11 5 0 (by decide) (by decide)).trans r1) (rlO_lt hx), Option.bind_some, e1]
  rfl
theorem c_fit {h g : xH} {n m c R x : Nat} {C : Nat → List Cl} (f : lkF h g) (hsc : scR h 0 (mS h) n m c) (hR : R ≤ 6) (r1 : h.1 11 5 0 = nI R) (hq : ∀ r, r < R → ruR h r (C r)) (hx : x ≤ R) : ∃ g1 g2, f_B_startFromBegin (nI x - 1) g = some g1 ∧ f_B_allNotesAreSo g1 = some (if Fit (mS h) n C c x = true then 1 else 0, g2) ∧ lkF h g2 ∧ wkF g g2 := by
  obtain ⟨g1, e1, w1, f1⟩ := c_fromBegin f hsc hR r1 hq hx
  have ff := lkF_trans f (lkF_w f1)
  have hn : ntR g1 (bgV (mS h)) c := ntR_v (V := mS h) (fun t ht => bgV_lo (by omega)) (nt_r (scR_l ff hsc).2)
  obtain ⟨g2, e2, f2⟩ := c_allNotes w1 hn (fun j hj => by rw [bgV_lo (by omega)]; exact nt_z hsc.1 j hj)
  exact ⟨g1, g2, e1, e2, lkF_trans ff (lkF_w f2), wkF_trans f1 f2⟩
/-- the reference fills in which rules fit -/
def fiF (h0 h' : xH) (V : Nat → Int32) : Prop := (∀ c k i, ¬ (c = 12 ∧ k = 18) → ¬ (c = 12 ∧ k = 21 ∧ i = 0) → h'.1 c k i = h0.1 c k i) ∧ (∀ f i, ¬ (i = 0 ∧ (f = 56 ∨ f = 58 ∨ f = 64 ∨ f = 65)) → h'.2.2.2.1 f i = h0.2.2.2.1 f i) ∧ ∀ j, j < 34 → h'.2.2.2.1 58 0 j = V (10 + j)
theorem m_fillsFits {h : xH} {n m c R : Nat} {C : Nat → List Cl} (hv : vOk (mS h) n m c) (hR : R ≤ 6) (r2 : h.1 12 2 0 = nI R) (hq : ∀ r, r < R → mcR h r 0 0 (C r)) : ∃ h2, f_M_fillsFits h = some h2 ∧ sameJ h h2 ∧ ∀ r, r ≤ R → h2.2.2.2.1 64 0 r = (if Fit (mS h) n C c r = true then 1 else 0) ∧ ∀ i, i < 61 → h2.2.2.2.1 65 0 (61 * r + i) = Tr (mS h) n C r i := by
  have hwk := wOk_v hv
  have h8 := hwk.2.1
  obtain ⟨-, -, -, -, -, -, -, -, -, -, -, -, h100, c10, -⟩ := id hv
  obtain ⟨k1, ek1, wk1⟩ := m_keepW (h := h)
  have key := whl_cntE (step := fun s : Int32 × xH => f_M_fillsFits_s11 (h.1 12 21 0) s.1 s.2) (R + 1) (fun k s => s.1 = nI k ∧ fiF h s.2 (mS h) ∧ (∀ t, ¬ (10 ≤ t ∧ t < 44) → mS s.2 t = mS h t) ∧ ∀ r, r < k → s.2.2.2.2.1 64 0 r = (if Fit (mS h) n C c r = true then 1 else 0) ∧ ∀ i, i < 61 → s.2.2.2.2.1 65 0 (61 * r + i) = Tr (mS h) n C r i) (fun h2 => sameJ h h2 ∧ ∀ r, r ≤ R → h2.2.2.2.1 64 0 r = (if Fit (mS h) n C c r = true then 1 else 0) ∧ ∀ i, i < 61 → h2.2.2.2.1 65 0 (61 * r + i) = Tr (mS h) n C r i) ?_ ?_ (0, k1) ⟨nI_0.symm, ⟨fun c k i q _ => wk1.1 c k i q, fun f i q => wk1.2.1 f i (by omega) (by omega), wk1.2.2.1⟩, fun t _ => congrFun wk1.2.2.2 t, fun r hr => absurd hr (by omega)⟩
  · obtain ⟨x, e, q⟩ := key
    refine ⟨x, ?_, q⟩
    show (f_M_keeps h).bind (fun h4 => f_M_fillsFits_l11 (h.1 12 21 0) 0 h4) = _
    rw [ek1, Option.bind_some]
    exact e
  · rintro k hk ⟨q1, g⟩ ⟨e1, f, ho, l⟩
    have e1 : q1 = nI k := e1
    subst e1
    have f : fiF h g (mS h) := f
    have ho : ∀ t, ¬ (10 ≤ t ∧ t < 44) → mS g t = mS h t := ho
    have l : ∀ r, r < k → g.2.2.2.1 64 0 r = (if Fit (mS h) n C c r = true then 1 else 0) ∧ ∀ i, i < 61 → g.2.2.2.1 65 0 (61 * r + i) = Tr (mS h) n C r i := l
    left
    obtain ⟨g1, eg1⟩ : ∃ g1, g1 = xsI g 12 21 0 (nI k - 1) := ⟨_, rfl⟩
    obtain ⟨g2, eg2⟩ : ∃ g2, g2 = xsA g1 56 0 (bgV (mS g1)) := ⟨_, rfl⟩
    have s1 : mS g1 = mS g := by rw [eg1]; rfl
    have s2 : mS g2 = bgV (mS h) := by
      rw [eg2]
      show (xsA g1 56 0 (bgV (mS g1))).2.2.2.1 56 0 = _
      rw [rdA_s, s1]
      exact bg_o ho
    have A2 : ∀ f' i, ¬ (f' = 56 ∧ i = 0) → g2.2.2.2.1 f' i = g.2.2.2.1 f' i := fun f' i q => by rw [eg2, rdA_n q, eg1]; rfl
    have I2 : ∀ c' k' i', ¬ (c' = 12 ∧ k' = 21 ∧ i' = 0) → g2.1 c' k' i' = g.1 c' k' i' := fun c' k' i' q => by
      rw [eg2]
      show g1.1 c' k' i' = _
      rw [eg1, rdI_3 q]
    have I21 : g2.1 12 21 0 = oI (rlO k) := by
      rw [eg2]
      show g1.1 12 21 0 = _
      rw [eg1, rdI_s, oO]
    have e48 : ∀ f', f' = 48 ∨ f' = 50 ∨ f' = 51 → g2.2.2.2.1 f' 0 = h.2.2.2.1 f' 0 := fun f' q => by rw [A2 f' 0 (by omega), f.2.1 f' 0 (by omega)]
    obtain ⟨g3, eg3, eS3, f3, e65⟩ := m_areAllSo (h := g2) (n := n) (r := k) (c := c) (rl := rlO k) (cs := csO C k) (by omega) (by rw [s2]; exact wOk_bg hv) I21 (fun r' hr' => ⟨(mc_all hR hq (show k ≤ R by omega) r' hr').1, mcR_of2 (e48 48 (by omega)) (e48 50 (by omega)) (e48 51 (by omega)) (mc_all hR hq (show k ≤ R by omega) r' hr').2⟩) (by rw [s2, bgV_lo (by omega)]; exact h100) c10
    rw [s2] at eg3 eS3 e65
    have eg3 : f_M_areAllSo (nI k) g2 = some (if Fit (mS h) n C c k = true then 1 else 0, g3) := eg3
    obtain ⟨g4, eg4⟩ : ∃ g4, g4 = xsA g3 64 0 (upd (g3.2.2.2.1 64 0) k (if Fit (mS h) n C c k = true then 1 else 0)) := ⟨_, rfl⟩
    have e12 : g.1 12 2 0 = nI R := (f.1 12 2 0 (by omega) (by omega)).trans r2
    have run : f_M_fillsFits_s11 (h.1 12 21 0) (nI k) g = some (Sum.inl (nI (k + 1), g4)) := by
      unfold f_M_fillsFits_s11
      rw [e12, if_neg (nI_nlt (by omega) (by omega)), xlet_e, ← eg1, m_begins, Option.bind_some, ← eg2, eg3, Option.bind_some, if_pos (xibN (by omega) (by decide)), nI_clamp (by omega), xlet_e, xlet_e, nI_1]
      show (if (if Fit (mS h) n C c k = true then (1 : Int32) else 0) = 0 ∨ (if Fit (mS h) n C c k = true then (1 : Int32) else 0) = 1 then some (Sum.inl (nI (k + 1), xsA g3 64 0 (upd (g3.2.2.2.1 64 0) k (if Fit (mS h) n C c k = true then 1 else 0)))) else none) = _
      rw [← eg4]
      cases Fit (mS h) n C c k with
      | true => exact if_pos (by decide)
      | false => exact if_pos (by decide)
    refine ⟨_, run, rfl, ⟨fun c' k' i' q q' => ?_, fun f' i' q => ?_, fun i hi => ?_⟩, fun t ht => ?_, fun r hr => ⟨?_, fun i hi => ?_⟩⟩
    · show g4.1 c' k' i' = _
      rw [eg4]
      show g3.1 c' k' i' = _
      rw [f3.1 c' k' i' q, I2 c' k' i' q']
      exact f.1 c' k' i' q q'
    · show g4.2.2.2.1 f' i' = _
      rw [eg4, rdA_n (by omega), f3.2 f' i' (by omega) (by omega), A2 f' i' (by omega)]
      exact f.2.1 f' i' q
    · show g4.2.2.2.1 58 0 i = _
      rw [eg4, rdA_n (by omega), f3.2 58 0 (by omega) (by omega), A2 58 0 (by omega)]
      exact f.2.2 i hi
    · show g4.2.2.2.1 56 0 t = _
      rw [eg4, rdA_n (by omega)]
      show mS g3 t = _
      rw [eS3, wlk_o h8 ht, bgV_lo (by omega)]
    · show g4.2.2.2.1 64 0 r = _
      rw [eg4, rdA_s]
      by_cases q : r = k
      · subst q; exact pk_us
      · rw [pk_un q, f3.2 64 0 (by omega) (by omega), A2 64 0 (by omega)]
        exact (l r (by omega)).1
    · show g4.2.2.2.1 65 0 (61 * r + i) = _
      rw [eg4, rdA_n (by omega), e65]
      by_cases q : r = k
      · subst q
        unfold ltA
        rw [if_pos (by omega)]
        show oI _ = oI _
        rw [show 61 * r + i - 61 * r = i by omega]
      · unfold ltA
        rw [if_neg (by omega), A2 65 0 (by omega)]
        exact (l r (by omega)).2 i hi
  · rintro ⟨q1, g⟩ ⟨e1, f, ho, l⟩
    have e1 : q1 = nI (R + 1) := e1
    subst e1
    have f : fiF h g (mS h) := f
    have ho : ∀ t, ¬ (10 ≤ t ∧ t < 44) → mS g t = mS h t := ho
    have l : ∀ r, r < R + 1 → g.2.2.2.1 64 0 r = (if Fit (mS h) n C c r = true then 1 else 0) ∧ ∀ i, i < 61 → g.2.2.2.1 65 0 (61 * r + i) = Tr (mS h) n C r i := l
    obtain ⟨g1, eg1⟩ : ∃ g1, g1 = xsI g 12 21 0 (h.1 12 21 0) := ⟨_, rfl⟩
    have s1 : mS g1 = mS g := by rw [eg1]; rfl
    have lb : f_M_laysBack g1 = some (xsA g1 56 0 (mS h)) := m_laysBack (fun i hi => by rw [eg1]; exact f.2.2 i hi) (fun t ht => by rw [s1]; exact ho t ht)
    have e12 : g.1 12 2 0 = nI R := (f.1 12 2 0 (by omega) (by omega)).trans r2
    refine ⟨xsA g1 56 0 (mS h), ?_, ⟨fun c' k' i' q => ?_, fun f' i' q => ?_⟩, fun r hr => ?_⟩
    · show f_M_fillsFits_s11 (h.1 12 21 0) (nI (R + 1)) g = _
      unfold f_M_fillsFits_s11 f_M_fillsFits_b47
      rw [e12, if_pos (nI_lt (by omega) (by omega)), xlet_e, ← eg1, lb]
      rfl
    · show g1.1 c' k' i' = _
      rw [eg1]
      by_cases q1 : c' = 12 ∧ k' = 21 ∧ i' = 0
      · rw [q1.1, q1.2.1, q1.2.2, rdI_s]
      · rw [rdI_3 q1]
        exact f.1 c' k' i' (by unfold jF at q; omega) q1
    · by_cases q1 : f' = 56 ∧ i' = 0
      · rw [q1.1, q1.2, rdA_s]
      · rw [rdA_n q1, eg1]
        exact f.2.1 f' i' (by unfold jG at q; omega)
    · rw [rdA_n (by decide), rdA_n (by decide), eg1]
      exact l r (by omega)
def ruG (P : Nat → Bool) (R k : Nat) (s : Int32 × Int32) : Int32 × Int32 := if P (R - k) = true then (s.1 + 1, nI (R - k) - 1) else s
theorem c_ruled38 {h : xH} {n m c R : Nat} {C : Nat → List Cl} (v : Int32) (hsc : scR h 0 (mS h) n m c) (hR : R ≤ 6) (r1 : h.1 11 5 0 = nI R) (hq : ∀ r, r < R → ruR h r (C r)) : ∃ h2, f_B_ruled_l38 v 0 (-2) (nI R - 1) h = some (if v = 0 then (fold (ruG (Fit (mS h) n C c) R) (0, -2) (R + 1)).1 else (fold (ruG (Fit (mS h) n C c) R) (0, -2) (R + 1)).2, h2) ∧ lkF h h2 := by
  obtain ⟨G, hG⟩ : ∃ G, G = ruG (Fit (mS h) n C c) R := ⟨_, rfl⟩
  rw [← hG]
  have key := whl_cntE (step := fun s : Int32 × Int32 × Int32 × xH => f_B_ruled_s38 v s.1 s.2.1 s.2.2.1 s.2.2.2) (R + 1) (fun k s => s.1 = (fold G (0, -2) k).1 ∧ s.2.1 = (fold G (0, -2) k).2 ∧ (k ≤ R → s.2.2.1 = nI (R - k) - 1) ∧ (k = R + 1 → s.2.2.1 = -2) ∧ lkF h s.2.2.2) (fun x => ∃ h2, x = (if v = 0 then (fold G (0, -2) (R + 1)).1 else (fold G (0, -2) (R + 1)).2, h2) ∧ lkF h h2) ?_ ?_ (0, -2, nI R - 1, h) ⟨rfl, rfl, fun _ => rfl, fun z => by omega, lkF_refl h⟩
  · obtain ⟨x, e, h2, rfl, q⟩ := key
    exact ⟨h2, e, q⟩
  · rintro k hk ⟨q0, q1, q2, g⟩ ⟨e0, e1, e2, -, f⟩
    have e2 : q2 = nI (R - k) - 1 := e2 (by omega)
    subst e2
    have e0 : q0 = (fold G (0, -2) k).1 := e0
    have e1 : q1 = (fold G (0, -2) k).2 := e1
    have f : lkF h g := f
    left
    obtain ⟨g1, g2, eg1, eg2, f2, -⟩ := c_fit f hsc hR r1 hq (show R - k ≤ R by omega)
    have cmp : ¬ nI (R - k) - 1 < -1 := by
      rw [Int32.lt_iff_toInt_lt, show (1 : Int32) = nI 1 from rfl, pk_sub_toInt (by omega) (by omega)]
      show ¬ _ < (-1 : Int)
      omega
    have run : f_B_ruled_s38 v q0 q1 (nI (R - k) - 1) g = (if (if Fit (mS h) n C c (R - k) = true then (1 : Int32) else 0) = 0 then some (Sum.inl (q0, q1, nI (R - k) - 1 + (-1), g2)) else some (Sum.inl (q0 + 1, nI (R - k) - 1, nI (R - k) - 1 + (-1), g2))) := by
      unfold f_B_ruled_s38 f_B_ruled_b63
      rw [if_neg cmp, eg1, Option.bind_some, eg2, Option.bind_some]
      rfl
    have fs : fold G (0, -2) (k + 1) = G k (fold G (0, -2) k) := rfl
    refine ⟨((fold G (0, -2) (k + 1)).1, (fold G (0, -2) (k + 1)).2, nI (R - k) - 1 + (-1), g2), run.trans ?_, rfl, rfl, fun q => ?_, fun q => ?_, f2⟩
    · have gk : G k (fold G (0, -2) k) = if Fit (mS h) n C c (R - k) = true then ((fold G (0, -2) k).1 + 1, nI (R - k) - 1) else fold G (0, -2) k := by rw [hG]; rfl
      rw [sel_e, fs, gk, e0, e1]
      by_cases q : Fit (mS h) n C c (R - k) = true
      · rw [if_pos q, if_pos q]
      · rw [if_neg q, if_neg q]
    · show nI (R - k) - 1 + (-1) = nI (R - (k + 1)) - 1
      rw [show R - k = (R - (k + 1)) + 1 by omega, nI_pred]
      exact (Int32.sub_eq_add_neg _ _).symm
    · show nI (R - k) - 1 + (-1) = -2
      rw [show R - k = 0 by omega]
      decide
  · rintro ⟨q0, q1, q2, g⟩ ⟨e0, e1, -, e2, f⟩
    have e2 : q2 = -2 := e2 rfl
    subst e2
    have e0 : q0 = (fold G (0, -2) (R + 1)).1 := e0
    have e1 : q1 = (fold G (0, -2) (R + 1)).2 := e1
    refine ⟨(if v = 0 then q0 else q1, g), ?_, g, by rw [e0, e1], f⟩
    show f_B_ruled_s38 v q0 q1 (-2) g = _
    unfold f_B_ruled_s38 f_B_ruled_b69
    rw [if_pos (by decide)]
    by_cases q : v = 0
    · rw [if_pos q, if_pos q]; rfl
    · rw [if_neg q, if_neg q]; rfl
theorem m_ruled35 {h : xH} {R : Nat} {P : Nat → Bool} (v : Int32) (hR : R ≤ 6) (hP : ∀ r, r ≤ R → h.2.2.2.1 64 0 r = (if P r = true then 1 else 0)) : f_M_ruled_l35 v 0 (-2) (nI R) h = some (if v = 0 then (fold (ruG P R) (0, -2) (R + 1)).1 else (fold (ruG P R) (0, -2) (R + 1)).2, h) := by
  have key := whl_cntE (step := fun s : Int32 × Int32 × Int32 => f_M_ruled_s35 v s.1 s.2.1 s.2.2 h) (R + 1) (fun k s => s.1 = (fold (ruG P R) (0, -2) k).1 ∧ s.2.1 = (fold (ruG P R) (0, -2) k).2 ∧ (k ≤ R → s.2.2 = nI (R - k)) ∧ (k = R + 1 → s.2.2 = -1)) (fun x => x = (if v = 0 then (fold (ruG P R) (0, -2) (R + 1)).1 else (fold (ruG P R) (0, -2) (R + 1)).2, h)) ?_ ?_ (0, -2, nI R) ⟨rfl, rfl, fun _ => rfl, fun z => by omega⟩
  · obtain ⟨x, e, rfl⟩ := key
    exact e
  · rintro k hk ⟨q0, q1, q2⟩ ⟨e0, e1, e2, -⟩
    have e2 : q2 = nI (R - k) := e2 (by omega)
    subst e2
    have e0 : q0 = (fold (ruG P R) (0, -2) k).1 := e0
    have e1 : q1 = (fold (ruG P R) (0, -2) k).2 := e1
    left
    have run : f_M_ruled_s35 v q0 q1 (nI (R - k)) h = (if (if P (R - k) = true then (1 : Int32) else 0) = 0 then some (Sum.inl (q0, q1, nI (R - k) + (-1))) else some (Sum.inl (q0 + 1, nI (R - k) - 1, nI (R - k) + (-1)))) := by
      unfold f_M_ruled_s35 f_M_ruled_b61
      rw [if_neg (nI_pos (by omega)), if_pos (xibN (by omega) (by decide)), nI_clamp (by omega), hP (R - k) (by omega)]
      rfl
    have fs : fold (ruG P R) (0, -2) (k + 1) = ruG P R k (fold (ruG P R) (0, -2) k) := rfl
    refine ⟨((fold (ruG P R) (0, -2) (k + 1)).1, (fold (ruG P R) (0, -2) (k + 1)).2, nI (R - k) + (-1)), run.trans ?_, rfl, rfl, fun q => ?_, fun q => ?_⟩
    · have gk : ruG P R k (fold (ruG P R) (0, -2) k) = if P (R - k) = true then ((fold (ruG P R) (0, -2) k).1 + 1, nI (R - k) - 1) else fold (ruG P R) (0, -2) k := rfl
      rw [sel_e, fs, gk, e0, e1]
      by_cases q : P (R - k) = true
      · rw [if_pos q, if_pos q]
      · rw [if_neg q, if_neg q]
    · show nI (R - k) + (-1) = nI (R - (k + 1))
      rw [show R - k = (R - (k + 1)) + 1 by omega]
      exact pk_m1 _
    · show nI (R - k) + (-1) = -1
      rw [show R - k = 0 by omega]
      decide
  · rintro ⟨q0, q1, q2⟩ ⟨e0, e1, -, e2⟩
    have e2 : q2 = -1 := e2 rfl
    subst e2
    have e0 : q0 = (fold (ruG P R) (0, -2) (R + 1)).1 := e0
    have e1 : q1 = (fold (ruG P R) (0, -2) (R + 1)).2 := e1
    refine ⟨_, ?_, rfl⟩
    show f_M_ruled_s35 v q0 q1 (-1) h = _
    unfold f_M_ruled_s35 f_M_ruled_b67
    rw [if_pos (by decide), e0, e1]
    by_cases q : v = 0
    · rw [if_pos q, if_pos q]; rfl
    · rw [if_neg q, if_neg q]; rfl
theorem p_ruled : lI_ruled (jII Qr) := by
  intro a h hj
  obtain ⟨n, m, c, R, C, hsc, hR, r1, r2, hq⟩ := all_pre hj
  obtain ⟨hv, ht, hst, -, -⟩ := id hsc
  obtain ⟨v0, -⟩ := id hv
  have rf : ∀ h1 : xH, f_M_ruled a h1 = (f_M_isTrug h1).bind (fun r1 => if r1 = 0 then some (-3, h1) else (f_M_in a.toInt64 0 1 h1).bind (fun r4 => if r4 = 0 then some (-3, h1) else (f_M_fillsFits h1).bind (fun h9 => f_M_ruled_l35 a 0 (-2) (h9.1 12 2 0) h9))) := fun _ => rfl
  have cl : f_B_ruled a h = (if h.1 8 0 0 = 0 then some (-3, h) else if a < 0 then some (-3, h) else if a ≤ 1 then f_B_ruled_l38 a 0 (-2) (h.1 11 5 0 - 1) h else some (-3, h)) := rfl
  have ma : ∀ h1 : xH, f_M_in a.toInt64 0 1 h1 = some (if a < 0 ∨ 1 < a then 0 else 1) := fun h1 => m_in a 0 1 (by decide) (by decide)
  by_cases z : mS h 0 = 0
  · exact ⟨-3, h, h, by rw [cl, ht.1, if_pos z], by rw [rf, m_isTrug v0, Option.bind_some, if_pos z], hj⟩
  by_cases a0 : a < 0
  · exact ⟨-3, h, h, by rw [cl, ht.1, if_neg z, if_pos a0], by rw [rf, m_isTrug v0, Option.bind_some, if_neg z, ma, if_pos (Or.inl a0)]; rfl, hj⟩
  by_cases a1 : ¬ a ≤ 1
  · exact ⟨-3, h, h, by rw [cl, ht.1, if_neg z, if_neg a0, if_neg a1], by rw [rf, m_isTrug v0, Option.bind_some, if_neg z, ma, if_pos (Or.inr (Int32.not_le.mp a1))]; rfl, hj⟩
  have a1 : a ≤ 1 := Decidable.not_not.mp a1
  obtain ⟨g1, eg1, f1⟩ := c_ruled38 a hsc hR r1 hq
  obtain ⟨eS, sc⟩ := scR_l f1 hsc
  have hq2 : ∀ r, r < R → mcR g1 r 0 0 (C r) := fun r hr => mcR_of2 (f1.2 48 0 (by omega) (by omega)) (f1.2 50 0 (by omega) (by omega)) (f1.2 51 0 (by omega) (by omega)) (hq r hr).1
  have r2' : g1.1 12 2 0 = nI R := (f1.1 12 2 0 (by decide) (by decide)).trans r2
  obtain ⟨k2, ek2, j2, hf⟩ := m_fillsFits (h := g1) (n := n) (m := m) (c := c) (R := R) (C := C) (by rw [eS]; exact hv) hR r2' hq2
  rw [eS] at hf
  have k12 : k2.1 12 2 0 = nI R := (j2.1 12 2 0 (by unfold jF; omega)).trans r2'
  have mr := m_ruled35 (h := k2) a hR (fun r hr => (hf r hr).1)
  obtain ⟨r, er⟩ : ∃ r, r = (if a = 0 then (fold (ruG (Fit (mS h) n C c) R) (0, -2) (R + 1)).1 else (fold (ruG (Fit (mS h) n C c) R) (0, -2) (R + 1)).2) := ⟨_, rfl⟩
  rw [← er] at eg1 mr
  refine ⟨r, g1, k2, ?_, ?_, sameJ_jII Qr_ok (sameJ_trans (lkF_J f1) j2) hj⟩
  · rw [cl, ht.1, if_neg z, if_neg a0, if_pos a1, r1, eg1]
  · rw [rf, m_isTrug (by rw [eS]; exact v0), Option.bind_some, eS, if_neg z, ma, if_neg (fun y => y.elim a0 (Int32.not_lt.mpr a1)), Option.bind_some, if_neg (by decide), ek2, Option.bind_some, k12, mr]
