/-! PURE: when -/
theorem st_11 {W : Nat → Int32} {c : Option Nat} : stV W c 11 = W 11 + 1 := by
  cases c with
  | none => exact pk_us
  | some k => exact pk_us
theorem wlk_11 {V : Nat → Int32} {n S : Nat} {rl : Option Nat} {cs : List Cl} (hS : V 11 = nI S) : ∀ i, wlk V n rl cs i 11 = nI (S + i)
  | 0 => hS
  | i + 1 => by
    show stV (wlk V n rl cs i) (chV (wlk V n rl cs i) n rl cs) 11 = _
    rw [st_11, wlk_11 hS i, nI_1]
    rfl
/-- the first of 100 steps in which j is lifted -/
def isW (V : Nat → Int32) (n : Nat) (rl : Option Nat) (cs : List Cl) (j : Nat) (v r : Int32) : Prop :=
  (∃ i, i < 100 ∧ chV (wlk V n rl cs i) n rl cs = some j ∧ (∀ i', i' < i → ¬ chV (wlk V n rl cs i') n rl cs = some j) ∧ r = if v = 0 then wlk V n rl cs i 11 else wlk V n rl cs (i + 1) 10) ∨ (r = -2 ∧ ∀ i, i < 100 → ¬ chV (wlk V n rl cs i) n rl cs = some j)
theorem isW_u {V : Nat → Int32} {n j : Nat} {rl : Option Nat} {cs : List Cl} {v r r' : Int32} (a : isW V n rl cs j v r) (b : isW V n rl cs j v r') : r = r' := by
  rcases a with ⟨i, hi, ci, ni, rfl⟩ | ⟨rfl, ni⟩
  · rcases b with ⟨k, hk, ck, nk, rfl⟩ | ⟨rfl, nk⟩
    · rcases Nat.lt_trichotomy i k with q | q | q
      · exact absurd ci (nk i q)
      · rw [q]
      · exact absurd ck (ni k q)
    · exact absurd ci (nk i hi)
  · rcases b with ⟨k, hk, ck, nk, rfl⟩ | ⟨rfl, nk⟩
    · exact absurd ck (ni k hk)
    · rfl
theorem oI_ne {c : Option Nat} {n j : Nat} (h8 : n ≤ 8) (hj : j < n) (hc : ∀ k, c = some k → k < n) (h : ¬ c = some j) : ¬ oI c = nI j := by
  cases c with
  | none => exact fun z => nI_nm1 (show j < 2 ^ 31 by omega) z.symm
  | some k =>
    have hk := hc k rfl
    intro z
    have : k = j := (nI_eq (by omega) (by omega)).mp z
    rw [this] at h
    exact h rfl
theorem c_when31 {h : xH} {n j : Nat} {V : Nat → Int32} {rl : Option Nat} {cs : List Cl} (v : Int32) (hj : j < n) (hw : wkA h V n rl cs) : ∃ r h2, f_B_when_l31 (nI j) v 0 h = some (r, h2) ∧ isW V n rl cs j v r ∧ wkF h h2 := by
  have hv := hw.2.1
  have h8 := hv.2.1
  have key := whl_cntE (step := fun s : Int32 × xH => f_B_when_s31 (nI j) v s.1 s.2) 100 (fun i s => s.1 = nI i ∧ wkA s.2 (wlk V n rl cs i) n rl cs ∧ wkF h s.2 ∧ ∀ i', i' < i → ¬ chV (wlk V n rl cs i') n rl cs = some j) (fun x => ∃ r h2, x = (r, h2) ∧ isW V n rl cs j v r ∧ wkF h h2) ?_ ?_ (0, h) ⟨nI_0.symm, hw, wkF_refl h, fun i' hi => absurd hi (by omega)⟩
  · obtain ⟨x, e, r, h2, rfl, q⟩ := key
    exact ⟨r, h2, e, q⟩
  · rintro i hi ⟨q1, g⟩ ⟨e1, wg, f, l⟩
    have e1 : q1 = nI i := e1
    subst e1
    have wg : wkA g (wlk V n rl cs i) n rl cs := wg
    have f : wkF h g := f
    obtain ⟨g2, eg2, w2, f2⟩ := c_goOn wg
    have w2 : wkA g2 (wlk V n rl cs (i + 1)) n rl cs := w2
    have ff := wkF_trans f f2
    have e11 : g.1 6 1 25 = wlk V n rl cs i 11 := by
      obtain ⟨⟨st, ⟨s1, -⟩, -⟩, -⟩ := wg
      exact s1.2.1
    have e10 : g2.1 6 0 25 = wlk V n rl cs (i + 1) 10 := by
      obtain ⟨⟨st, ⟨s1, -⟩, -⟩, -⟩ := w2
      exact s1.1
    have run : f_B_when_s31 (nI j) v (nI i) g = (if oI (chV (wlk V n rl cs i) n rl cs) = nI j then some (Sum.inr (if v = 0 then wlk V n rl cs i 11 else wlk V n rl cs (i + 1) 10, g2)) else some (Sum.inl (nI (i + 1), g2))) := by
      unfold f_B_when_s31
      rw [if_neg (show ¬ (100 : Int32) ≤ nI i from nI_ge (b := 100) hi (by decide)), xlet_e, eg2, Option.bind_some, xlet_e, nI_1]
      unfold f_B_when_b60
      rw [e10, e11]
      by_cases q : v = 0
      · rw [if_pos q, if_pos q]; rfl
      · rw [if_neg q, if_neg q]; rfl
    by_cases c2 : chV (wlk V n rl cs i) n rl cs = some j
    · right
      refine ⟨_, ?_, _, g2, rfl, Or.inl ⟨i, hi, c2, l, rfl⟩, ff⟩
      show f_B_when_s31 (nI j) v (nI i) g = _
      rw [run, c2, if_pos (show oI (some j) = nI j from rfl)]
    · left
      refine ⟨(nI (i + 1), g2), ?_, rfl, w2, ff, fun i' hi' => ?_⟩
      · show f_B_when_s31 (nI j) v (nI i) g = _
        rw [run, if_neg (oI_ne h8 hj chV_lt c2)]
      · by_cases q : i' = i
        · subst q; exact c2
        · exact l i' (by omega)
  · rintro ⟨q1, g⟩ ⟨e1, wg, f, l⟩
    have e1 : q1 = nI 100 := e1
    subst e1
    refine ⟨(-2, g), ?_, -2, g, rfl, Or.inr ⟨rfl, l⟩, f⟩
    show f_B_when_s31 (nI j) v (nI 100) g = _
    unfold f_B_when_s31
    rw [if_pos (show (100 : Int32) ≤ nI 100 by decide)]
theorem m_when30 {h0 h : xH} {n j S : Nat} {rl : Option Nat} {cs : List Cl} (v : Int32) (hj : j < n) (hw : mwR h0 h (mS h0) (mS h0)) (hv : wOk (mS h0) n) (hS : mS h0 11 = nI S) (hS9 : S ≤ 999) (hf : h0.1 12 21 0 = oI rl) (hr : ∀ r, rl = some r → r < 6 ∧ mcR h0 r 0 0 cs) : ∃ r h2, f_M_when_l30 (nI j) v (-2) 0 h = some (r, h2) ∧ isW (mS h0) n rl cs j v r ∧ sameJ h0 h2 := by
  have h8 := hv.2.1
  have key := whl_cntE (step := fun s : Int32 × Int32 × xH => f_M_when_s30 (nI j) v s.1 s.2.1 s.2.2) 100 (fun i s => s.2.1 = nI i ∧ ((s.1 = -2 ∧ mwR h0 s.2.2 (mS h0) (wlk (mS h0) n rl cs i) ∧ ∀ i', i' < i → ¬ chV (wlk (mS h0) n rl cs i') n rl cs = some j) ∨ (0 ≤ s.1 ∧ (∃ k, mwR h0 s.2.2 (mS h0) (wlk (mS h0) n rl cs k)) ∧ isW (mS h0) n rl cs j v s.1))) (fun x => ∃ r h2, x = (r, h2) ∧ isW (mS h0) n rl cs j v r ∧ sameJ h0 h2) ?_ ?_ (-2, 0, h) ⟨nI_0.symm, Or.inl ⟨rfl, hw, fun i' hi => absurd hi (by omega)⟩⟩
  · obtain ⟨x, e, r, h2, rfl, q⟩ := key
    exact ⟨r, h2, e, q⟩
  · rintro i hi ⟨q0, q1, g⟩ ⟨e1, l⟩
    have e1 : q1 = nI i := e1
    subst e1
    have n100 : ¬ (100 : Int32) ≤ nI i := nI_ge (b := 100) hi (by decide)
    rcases l with ⟨e0, w, l⟩ | ⟨p0, ⟨k, w⟩, l⟩
    · have e0 : q0 = -2 := e0
      subst e0
      have w : mwR h0 g (mS h0) (wlk (mS h0) n rl cs i) := w
      left
      obtain ⟨g2, eg2, w2⟩ := m_passW (h' := g) w (wlk_ok hv i) hf hr
      have w2 : mwR h0 g2 (mS h0) (wlk (mS h0) n rl cs (i + 1)) := w2
      have e11 : g2.2.2.2.1 56 0 11 = wlk (mS h0) n rl cs (i + 1) 11 := congrFun w2.2.2.2 11
      have e10 : g2.2.2.2.1 56 0 10 = wlk (mS h0) n rl cs (i + 1) 10 := congrFun w2.2.2.2 10
      have e11' : wlk (mS h0) n rl cs (i + 1) 11 - 1 = wlk (mS h0) n rl cs i 11 := by
        rw [wlk_11 hS, wlk_11 hS]
        exact nI_pred (S + i)
      have run : f_M_when_s30 (nI j) v (-2) (nI i) g = (if oI (chV (wlk (mS h0) n rl cs i) n rl cs) = nI j then some (Sum.inl (if v = 0 then wlk (mS h0) n rl cs i 11 else wlk (mS h0) n rl cs (i + 1) 10, nI (i + 1), g2)) else some (Sum.inl (-2, nI (i + 1), g2))) := by
        have s30 : f_M_when_s30 (nI j) v (-2) (nI i) g = (if (100 : Int32) ≤ nI i then xup (f_M_when_b79 (-2) g) else if (0 : Int32) ≤ -2 then xup (f_M_when_b79 (-2) g) else (f_M_passes g).bind (fun q17 => if q17.1 = nI j then (if v = 0 then some (Sum.inl (q17.2.2.2.2.1 56 0 11 - 1, nI i + 1, q17.2)) else some (Sum.inl (q17.2.2.2.2.1 56 0 10, nI i + 1, q17.2))) else some (Sum.inl (-2, nI i + 1, q17.2)))) := rfl
        rw [s30, if_neg n100, if_neg (by decide), eg2, Option.bind_some]
        show (if oI (chV (wlk (mS h0) n rl cs i) n rl cs) = nI j then (if v = 0 then some (Sum.inl (g2.2.2.2.1 56 0 11 - 1, nI i + 1, g2)) else some (Sum.inl (g2.2.2.2.1 56 0 10, nI i + 1, g2))) else some (Sum.inl (-2, nI i + 1, g2))) = _
        rw [e10, e11, e11', nI_1]
        by_cases q : v = 0
        · rw [if_pos q, if_pos q]
        · rw [if_neg q, if_neg q]
      by_cases c2 : chV (wlk (mS h0) n rl cs i) n rl cs = some j
      · refine ⟨_, by show f_M_when_s30 (nI j) v (-2) (nI i) g = _; rw [run, c2, if_pos (show oI (some j) = nI j from rfl)], rfl, Or.inr ⟨?_, ⟨i + 1, w2⟩, Or.inl ⟨i, hi, c2, l, rfl⟩⟩⟩
        show (0 : Int32) ≤ if v = 0 then _ else _
        obtain ⟨z, hz, ez⟩ := (wlk_ok (rl := rl) (cs := cs) hv (i + 1)).2.2.1
        rw [ez, wlk_11 hS]
        by_cases q : v = 0
        · rw [if_pos q]; exact nI_pos' (by omega)
        · rw [if_neg q]; exact nI_pos' (by omega)
      · refine ⟨_, by show f_M_when_s30 (nI j) v (-2) (nI i) g = _; rw [run, if_neg (oI_ne h8 hj chV_lt c2)], rfl, Or.inl ⟨rfl, w2, fun i' hi' => ?_⟩⟩
        by_cases q : i' = i
        · subst q; exact c2
        · exact l i' (by omega)
    · right
      have w : mwR h0 g (mS h0) (wlk (mS h0) n rl cs k) := w
      obtain ⟨g3, eg3, j3, -⟩ := m_backW w (fun t ht => wlk_o h8 ht k)
      refine ⟨(q0, g3), ?_, q0, g3, rfl, l, j3⟩
      show f_M_when_s30 (nI j) v q0 (nI i) g = _
      unfold f_M_when_s30 f_M_when_b79
      rw [if_neg n100, if_pos p0, eg3]
      rfl
  · rintro ⟨q0, q1, g⟩ ⟨e1, l⟩
    have e1 : q1 = nI 100 := e1
    subst e1
    have fin : ∀ k, mwR h0 g (mS h0) (wlk (mS h0) n rl cs k) → ∃ g3, f_M_when_s30 (nI j) v q0 (nI 100) g = some (Sum.inr (q0, g3)) ∧ sameJ h0 g3 := by
      intro k w
      obtain ⟨g3, eg3, j3, -⟩ := m_backW w (fun t ht => wlk_o h8 ht k)
      refine ⟨g3, ?_, j3⟩
      unfold f_M_when_s30 f_M_when_b79
      rw [if_pos (show (100 : Int32) ≤ nI 100 by decide), eg3]
      rfl
    rcases l with ⟨e0, w, l⟩ | ⟨p0, ⟨k, w⟩, l⟩
    · obtain ⟨g3, e3, j3⟩ := fin 100 w
      exact ⟨(q0, g3), e3, q0, g3, rfl, Or.inr ⟨e0, l⟩, j3⟩
    · obtain ⟨g3, e3, j3⟩ := fin k w
      exact ⟨(q0, g3), e3, q0, g3, rfl, l, j3⟩
theorem p_when : lI_when (jII Qr) := by
  intro a b h hj
  obtain ⟨n, m, c, rl, cs, hsc, hf, hf4, hc, hr, hn⟩ := ask_pre hj
  obtain ⟨hv, ht, hst, -, -⟩ := id hsc
  have hw := wOk_v hv
  have h8 := hw.2.1
  have hmn : mN h n := ⟨hw.1, h8⟩
  have rf : ∀ h1 : xH, f_M_when a b h1 = (f_M_isInside_i a h1).bind (fun r1 => if r1 = 0 then some (-1, h1) else (f_M_in b.toInt64 0 1 h1).bind (fun r4 => if r4 = 0 then some (-1, h1) else (f_M_keeps h1).bind (fun h9 => f_M_when_l30 a b (-2) 0 h9))) := fun _ => rfl
  have cl : f_B_when a b h = (if b < 0 then some (-1, h) else if 1 < b then some (-1, h) else (f_State_isIn 0 a h).bind (fun r3 => if r3 = 0 then some (-1, h) else (f_B_startNow h).bind (fun h8 => f_B_when_l31 a b 0 h8))) := rfl
  have mb : ∀ h1 : xH, f_M_in b.toInt64 0 1 h1 = some (if b < 0 ∨ 1 < b then 0 else 1) := fun h1 => m_in b 0 1 (by decide) (by decide)
  obtain ⟨i, eM, eC, hi⟩ := in_both hmn hst a
  cases i with
  | false =>
    refine ⟨-1, h, h, ?_, by rw [rf, eM]; rfl, hj⟩
    rw [cl, eC]
    split
    · rfl
    · split
      · rfl
      · rfl
  | true =>
    obtain ⟨j, hjn, rfl, hin⟩ := hi rfl
    by_cases b0 : b < 0
    · exact ⟨-1, h, h, by rw [cl, if_pos b0], by rw [rf, eM, Option.bind_some, if_neg (by decide), mb, if_pos (Or.inl b0)]; rfl, hj⟩
    by_cases b1 : 1 < b
    · exact ⟨-1, h, h, by rw [cl, if_neg b0, if_pos b1], by rw [rf, eM, Option.bind_some, if_neg (by decide), mb, if_pos (Or.inr b1)]; rfl, hj⟩
    obtain ⟨-, -, -, -, -, -, -, -, -, ⟨S, hS9, hS⟩, -⟩ := id hv
    obtain ⟨g, eg, wg, fg⟩ := ask_start hsc hf4 hc hn
    obtain ⟨r, g1, eg1, hs1, fg1⟩ := c_when31 b hjn wg
    have f1 := wkF_trans fg fg1
    obtain ⟨eS, mf, mr⟩ := ask_mid f1 hf hr
    obtain ⟨k1, ek1, wk1⟩ := m_keepW (h := g1)
    obtain ⟨r', k2, ek2, hs2, j2⟩ := m_when30 b hjn wk1 (by rw [eS]; exact hw) (by rw [eS]; exact hS) hS9 mf mr
    rw [eS] at hs2
    have : r = r' := isW_u hs1 hs2
    subst this
    refine ⟨r, g1, k2, ?_, ?_, sameJ_jII Qr_ok (sameJ_trans (wkF_J f1) j2) hj⟩
    · rw [cl, if_neg b0, if_neg b1, eC, Option.bind_some, if_neg (by decide), eg, Option.bind_some, eg1]
    · rw [rf, in_at eS hmn hjn hin, Option.bind_some, if_neg (by decide), mb, if_neg (fun y => y.elim b0 b1), Option.bind_some, if_neg (by decide), ek1, Option.bind_some, ek2]
