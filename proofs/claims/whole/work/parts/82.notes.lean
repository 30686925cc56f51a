/-! PURE: whether all notes are so -/
def allSo (V : Nat → Int32) (n : Nat) (rl : Option Nat) (cs : List Cl) (c : Nat) : Prop := ∀ i, i ≤ 60 → nsP V c i (oI (chV (wlk V n rl cs i) n rl cs))
noncomputable def aS (V : Nat → Int32) (n : Nat) (rl : Option Nat) (cs : List Cl) (c : Nat) : Bool := @decide (allSo V n rl cs c) (Classical.propDecidable _)
theorem aS_e {V : Nat → Int32} {n : Nat} {rl : Option Nat} {cs : List Cl} {c : Nat} : aS V n rl cs c = true ↔ allSo V n rl cs c := @decide_eq_true_iff _ (Classical.propDecidable _)
theorem aS_f {V : Nat → Int32} {n : Nat} {rl : Option Nat} {cs : List Cl} {c : Nat} (h : ¬ allSo V n rl cs c) : aS V n rl cs c = false := @decide_eq_false _ (Classical.propDecidable _) h
theorem aS_t {V : Nat → Int32} {n : Nat} {rl : Option Nat} {cs : List Cl} {c : Nat} (h : allSo V n rl cs c) : aS V n rl cs c = true := aS_e.mpr h
theorem c_allNotes {h : xH} {n c : Nat} {V : Nat → Int32} {rl : Option Nat} {cs : List Cl} (hw : wkA h V n rl cs) (hn : ntR h V c) (hz : ∀ j, j < c → ∃ z, z ≤ 60 ∧ V (80 + 2 * j) = nI z) : ∃ h2, f_B_allNotesAreSo h = some (if aS V n rl cs c = true then 1 else 0, h2) ∧ wkF h h2 := by
  obtain ⟨L, hL, eL, hl⟩ := c_lastNoted hn hz
  have key := whl_cntE (step := fun s : Int32 × xH => f_B_allNotesAreSo_s10 (nI L - 1) s.1 s.2) L (fun k s => s.1 = nI k ∧ wkA s.2 (wlk V n rl cs k) n rl cs ∧ wkF h s.2 ∧ ∀ i, i < k → nsP V c i (oI (chV (wlk V n rl cs i) n rl cs))) (fun x => ∃ h2, x = (if aS V n rl cs c = true then 1 else 0, h2) ∧ wkF h h2) ?_ ?_ (0, h) ⟨nI_0.symm, hw, wkF_refl h, fun i hi => absurd hi (by omega)⟩
  · obtain ⟨x, e, h2, rfl, q⟩ := key
    refine ⟨h2, ?_, q⟩
    show (f_Scene_lastNoted 0 h).bind (fun r1 => f_B_allNotesAreSo_l10 r1 0 h) = _
    rw [eL, Option.bind_some]
    exact e
  · rintro k hk ⟨q1, g⟩ ⟨e1, wg, f, l⟩
    have e1 : q1 = nI k := e1
    subst e1
    have wg : wkA g (wlk V n rl cs k) n rl cs := wg
    have f : wkF h g := f
    obtain ⟨g2, eg2, w2, f2⟩ := c_goOn wg
    have w2 : wkA g2 (wlk V n rl cs (k + 1)) n rl cs := w2
    have ff := wkF_trans f f2
    obtain ⟨b, eb, hb⟩ := c_agrees (i := k) (k := oI (chV (wlk V n rl cs k) n rl cs)) (ntR_k ff hn)
    have cmp : ¬ nI L - 1 < nI k := by
      rw [Int32.lt_iff_toInt_lt, show (1 : Int32) = nI 1 from rfl, pk_sub_toInt (by omega) (by omega), nI_toInt (by omega)]
      omega
    have run : f_B_allNotesAreSo_s10 (nI L - 1) (nI k) g = (if (if b then (1 : Int32) else 0) = 0 then some (Sum.inr (0, g2)) else some (Sum.inl (nI (k + 1), g2))) := by
      unfold f_B_allNotesAreSo_s10
      rw [if_neg cmp, eg2, Option.bind_some, eb, Option.bind_some, xlet_e, nI_1]
    cases b with
    | false =>
      right
      refine ⟨(0, g2), by show f_B_allNotesAreSo_s10 (nI L - 1) (nI k) g = _; rw [run]; exact if_pos (by decide), g2, ?_, ff⟩
      rw [aS_f (fun z => by have := hb.mpr (z k (by omega)); cases this), if_neg (by decide)]
    | true =>
      left
      refine ⟨(nI (k + 1), g2), by show f_B_allNotesAreSo_s10 (nI L - 1) (nI k) g = _; rw [run]; exact if_neg (by decide), rfl, w2, ff, fun i hi => ?_⟩
      by_cases q : i = k
      · subst q; exact hb.mp rfl
      · exact l i (by omega)
  · rintro ⟨q1, g⟩ ⟨e1, wg, f, l⟩
    have e1 : q1 = nI L := e1
    subst e1
    have cmp : nI L - 1 < nI L := by
      rw [Int32.lt_iff_toInt_lt, show (1 : Int32) = nI 1 from rfl, pk_sub_toInt (by omega) (by omega), nI_toInt (by omega)]
      omega
    refine ⟨(1, g), ?_, g, ?_, f⟩
    · show f_B_allNotesAreSo_s10 (nI L - 1) (nI L) g = _
      unfold f_B_allNotesAreSo_s10
      rw [if_pos cmp]
    · rw [aS_t (fun i hi => ?_), if_pos rfl]
      by_cases q : i < L
      · exact l i q
      · exact fun j hj e => absurd (hl j hj i hi e) q
/-- what was lifted, kept for rule r -/
def ltA (A T : Nat → Int32) (r k : Nat) : Nat → Int32 := fun t => if 61 * r ≤ t ∧ t < 61 * r + k then T (t - 61 * r) else A t
theorem ltA_0 {A T : Nat → Int32} {r : Nat} : ltA A T r 0 = A := by
  funext t
  exact if_neg (by omega)
theorem ltA_s {A T : Nat → Int32} {r k : Nat} : upd (ltA A T r k) (61 * r + k) (T k) = ltA A T r (k + 1) := by
  funext t
  unfold ltA
  by_cases a : t = 61 * r + k
  · subst a
    rw [pk_us, if_pos (by omega)]
    exact congrArg T (by omega)
  · rw [pk_un a]
    by_cases b : 61 * r ≤ t ∧ t < 61 * r + k
    · rw [if_pos b, if_pos (by omega)]
    · rw [if_neg b, if_neg (by omega)]
/-- the reference goes through with it: what has changed -/
def alF (h h' : xH) : Prop := (∀ c k i, ¬ (c = 12 ∧ k = 18) → h'.1 c k i = h.1 c k i) ∧ ∀ f i, ¬ (f = 56 ∧ i = 0) → ¬ (f = 65 ∧ i = 0) → h'.2.2.2.1 f i = h.2.2.2.1 f i
theorem m_areAllSo {h : xH} {n r c : Nat} {rl : Option Nat} {cs : List Cl} (hr7 : r < 7) (hv : wOk (mS h) n) (hf : h.1 12 21 0 = oI rl) (hr : ∀ r, rl = some r → r < 6 ∧ mcR h r 0 0 cs) (hc : mS h 100 = nI c) (c10 : c ≤ 10) : ∃ h2, f_M_areAllSo (nI r) h = some (if aS (mS h) n rl cs c = true then 1 else 0, h2) ∧ mS h2 = wlk (mS h) n rl cs 61 ∧ alF h h2 ∧ h2.2.2.2.1 65 0 = ltA (h.2.2.2.1 65 0) (fun i => oI (chV (wlk (mS h) n rl cs i) n rl cs)) r 61 := by
  have h8 := hv.2.1
  have key := whl_cntE (step := fun s : Int32 × Int32 × xH => f_M_areAllSo_s4 (nI r) s.1 s.2.1 s.2.2) 61 (fun k s => s.2.1 = nI k ∧ (∃ b : Bool, s.1 = (if b then 1 else 0) ∧ (b = true ↔ ∀ i, i < k → nsP (mS h) c i (oI (chV (wlk (mS h) n rl cs i) n rl cs)))) ∧ mS s.2.2 = wlk (mS h) n rl cs k ∧ alF h s.2.2 ∧ s.2.2.2.2.2.1 65 0 = ltA (h.2.2.2.1 65 0) (fun i => oI (chV (wlk (mS h) n rl cs i) n rl cs)) r k) (fun x => ∃ h2, x = (if aS (mS h) n rl cs c = true then 1 else 0, h2) ∧ mS h2 = wlk (mS h) n rl cs 61 ∧ alF h h2 ∧ h2.2.2.2.1 65 0 = ltA (h.2.2.2.1 65 0) (fun i => oI (chV (wlk (mS h) n rl cs i) n rl cs)) r 61) ?_ ?_ (1, 0, h) ⟨nI_0.symm, ⟨true, rfl, fun _ i hi => absurd hi (by omega), fun _ => rfl⟩, rfl, ⟨fun _ _ _ _ => rfl, fun _ _ _ _ => rfl⟩, ltA_0.symm⟩
  · obtain ⟨x, e, h2, rfl, q⟩ := key
    exact ⟨h2, e, q⟩
  · rintro k hk ⟨q0, q1, g⟩ ⟨e1, ⟨b, e0, hb⟩, eg, f, e65⟩
    have e1 : q1 = nI k := e1
    have e0 : q0 = (if b then 1 else 0) := e0
    subst e1
    subst e0
    have eg : mS g = wlk (mS h) n rl cs k := eg
    have f : alF h g := f
    have e65 : g.2.2.2.1 65 0 = ltA (h.2.2.2.1 65 0) (fun i => oI (chV (wlk (mS h) n rl cs i) n rl cs)) r k := e65
    left
    obtain ⟨g2, eg2, eS, f2⟩ := m_passes (h := g) (n := n) (rl := rl) (cs := cs) (by rw [eg]; exact wlk_ok hv k) (by rw [f.1 12 21 0 (by omega)]; exact hf) (fun r' hr' => ⟨(hr r' hr').1, mcR_of2 (f.2 48 0 (by omega) (by omega)) (f.2 50 0 (by omega) (by omega)) (f.2 51 0 (by omega) (by omega)) (hr r' hr').2⟩)
    rw [eg] at eg2 eS
    have eS : mS g2 = wlk (mS h) n rl cs (k + 1) := eS
    have e100 : mS g2 100 = nI c := by
      rw [eS, wlk_o h8 (by omega)]
      exact hc
    obtain ⟨b', eb', hb'⟩ := m_areNotesSo (i := k) (k := oI (chV (wlk (mS h) n rl cs k) n rl cs)) e100 c10
    have hns : nsP (mS g2) c k (oI (chV (wlk (mS h) n rl cs k) n rl cs)) ↔ nsP (mS h) c k (oI (chV (wlk (mS h) n rl cs k) n rl cs)) := by
      unfold nsP
      rw [eS]
      refine ⟨fun z j hj e => ?_, fun z j hj e => ?_⟩
      · have := z j hj (by rw [wlk_o h8 (by omega)]; exact e)
        rw [wlk_o h8 (by omega)] at this
        exact this
      · rw [wlk_o h8 (by omega)] at e ⊢
        exact z j hj e
    have ix : (61 : Int32) * nI r + nI k = nI (61 * r + k) := by
      rw [show (61 : Int32) * nI r = nI (61 * r) from pk_mul 61 r, nI_add]
    obtain ⟨g3, eg3⟩ : ∃ g3, g3 = xsA g2 65 0 (upd (g2.2.2.2.1 65 0) (61 * r + k) (oI (chV (wlk (mS h) n rl cs k) n rl cs))) := ⟨_, rfl⟩
    have b35 : ∀ t0, f_M_areAllSo_b35 (nI r) (nI k) (oI (chV (wlk (mS h) n rl cs k) n rl cs)) t0 g2 = some (Sum.inl (t0, nI (k + 1), g3)) := by
      intro t0
      unfold f_M_areAllSo_b35
      rw [ix, if_pos (xibN (by omega) (by decide)), nI_clamp (by omega), xlet_e, xlet_e, nI_1, ← eg3]
    have run : f_M_areAllSo_s4 (nI r) (if b then 1 else 0) (nI k) g = some (Sum.inl (if (b && b') then 1 else 0, nI (k + 1), g3)) := by
      unfold f_M_areAllSo_s4 f_M_areAllSo_b34
      rw [if_neg (show ¬ (60 : Int32) < nI k from nI_nlt (b := k) (a := 60) (by omega) (by decide)), eg2, Option.bind_some, b35, eb', Option.bind_some, b35]
      cases b with
      | false => rfl
      | true =>
        cases b' with
        | false => rfl
        | true => rfl
    have f2' : ∀ f' i, ¬ (f' = 56 ∧ i = 0) → g2.2.2.2.1 f' i = g.2.2.2.1 f' i := f2.2
    refine ⟨_, run, rfl, ⟨b && b', rfl, ?_⟩, ?_, ⟨fun c' k' i' q => ?_, fun f' i' q1 q2 => ?_⟩, ?_⟩
    · rw [Bool.and_eq_true, hb, hb', hns]
      refine ⟨fun z i hi => ?_, fun z => ⟨fun i hi => z i (by omega), z k (by omega)⟩⟩
      by_cases q : i = k
      · subst q; exact z.2
      · exact z.1 i (by omega)
    · show g3.2.2.2.1 56 0 = _
      rw [eg3, rdA_n (by decide)]
      exact eS
    · show g3.1 c' k' i' = _
      rw [eg3]
      exact (f2.1 c' k' i' q).trans (f.1 c' k' i' q)
    · show g3.2.2.2.1 f' i' = _
      rw [eg3, rdA_n q2, f2' f' i' q1]
      exact f.2 f' i' q1 q2
    · show g3.2.2.2.1 65 0 = _
      rw [eg3, rdA_s, f2' 65 0 (by omega), e65]
      exact ltA_s (T := fun i => oI (chV (wlk (mS h) n rl cs i) n rl cs))
  · rintro ⟨q0, q1, g⟩ ⟨e1, ⟨b, e0, hb⟩, eg, f, e65⟩
    have e1 : q1 = nI 61 := e1
    have e0 : q0 = (if b then 1 else 0) := e0
    subst e1
    subst e0
    have ea : aS (mS h) n rl cs c = b := by
      cases b with
      | true => exact aS_t (fun i hi => hb.mp rfl i (by omega))
      | false => exact aS_f (fun z => by have := hb.mpr (fun i hi => z i (by omega)); cases this)
    refine ⟨(if b then 1 else 0, g), ?_, g, by rw [ea], eg, f, e65⟩
    show f_M_areAllSo_s4 (nI r) (if b then 1 else 0) (nI 61) g = _
    unfold f_M_areAllSo_s4
    rw [if_pos (show (60 : Int32) < nI 61 by decide)]
    cases b with
    | true => exact if_pos (by decide)
    | false => exact if_pos (by decide)
