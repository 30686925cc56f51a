/-! PURE: slack -/
def mnV (W : Nat → Int32) : Nat := (W 10).toNatClampNeg
theorem mn_e {W : Nat → Int32} {n : Nat} (hv : wOk W n) : W 10 = nI (mnV W) ∧ mnV W ≤ 9999 := by
  obtain ⟨z, hz, e⟩ := hv.2.2.1
  have : mnV W = z := by
    show (W 10).toNatClampNeg = z
    rw [e, nI_clamp (by omega)]
  rw [this]
  exact ⟨e, hz⟩
theorem gbT_n {W : Nat → Int32} {n y : Nat} (hv : wOk W n) (hy : y ≤ 9999) : gbT W (nI y) = nI (min 9999 (mnV W + y)) := by
  obtain ⟨e, hz⟩ := mn_e hv
  unfold gbT
  rw [e, nI_add]
  by_cases c : mnV W + y ≤ 9999
  · rw [if_pos (show nI (mnV W + y) ≤ (9999 : Int32) from nI_le (b := 9999) c (by decide)), Nat.min_eq_right c]
  · rw [if_neg (show ¬ nI (mnV W + y) ≤ (9999 : Int32) from nI_ge (a := 9999) (by omega) (by omega)), Nat.min_eq_left (by omega)]
    rfl
theorem mn_of {W : Nat → Int32} {z : Nat} (e : W 10 = nI z) (hz : z ≤ 9999) : mnV W = z := by
  show (W 10).toNatClampNeg = z
  rw [e, nI_clamp (by omega)]
theorem mn_st {W : Nat → Int32} {n : Nat} {c : Option Nat} (hv : wOk W n) (hc : ∀ k, c = some k → k < n) : mnV W ≤ mnV (stV W c) := by
  obtain ⟨e, hz⟩ := mn_e hv
  cases c with
  | none =>
    have e1 : stV W none 10 = nI (min 9999 (mnV W + 1)) := by
      show upd (upd W 10 (gbT W 1)) 11 (W 11 + 1) 10 = _
      rw [pk_un (show (10 : Nat) ≠ 11 by decide), pk_us]
      exact gbT_n (y := 1) hv (by decide)
    rw [mn_of e1 (Nat.min_le_left _ _)]
    omega
  | some k =>
    obtain ⟨-, -, y, hy, ey⟩ := hv.2.2.2 k (hc k rfl)
    have e1 : stV W (some k) 10 = nI (min 9999 (mnV W + y)) := by
      show upd (liV W k) 11 (W 11 + 1) 10 = _
      rw [pk_un (show (10 : Nat) ≠ 11 by decide), liV_10, liT_n e hz ey hy]
    rw [mn_of e1 (Nat.min_le_left _ _)]
    omega
theorem mn_wlk {V : Nat → Int32} {n : Nat} {rl : Option Nat} {cs : List Cl} (hv : wOk V n) {i : Nat} : ∀ d, mnV (wlk V n rl cs i) ≤ mnV (wlk V n rl cs (i + d))
  | 0 => Nat.le_refl _
  | d + 1 => Nat.le_trans (mn_wlk hv d) (mn_st (wlk_ok hv (i + d)) chV_lt)
/-- it is yet let be in one of the next 100 steps -/
def slP (V : Nat → Int32) (n : Nat) (rl : Option Nat) (cs : List Cl) (j : Nat) : Prop := ∃ i, i < 100 ∧ chV (wlk V n rl cs i) n rl cs = some j ∧ (∀ i', i' < i → ¬ chV (wlk V n rl cs i') n rl cs = some j) ∧ vLb (wlk V n rl cs (i + 1)) j = true
theorem wlk_44 {V : Nat → Int32} {n : Nat} {rl : Option Nat} {cs : List Cl} (h8 : n ≤ 8) {j : Nat} (i : Nat) : wlk V n rl cs i (44 + j) = V (44 + j) := wlk_o h8 (by omega) i
theorem late {V : Nat → Int32} {n j D T : Nat} {rl : Option Nat} {cs : List Cl} {i : Nat} (hv : wOk V n) (hD : V 1 = nI D) (hD3 : D ≤ 300) (hT : V (44 + j) = nI T) (hT4 : T ≤ 40) (hc : chV (wlk V n rl cs i) n rl cs = some j) (hl : vLb (wlk V n rl cs (i + 1)) j = true) : mnV (wlk V n rl cs i) + T ≤ D := by
  have h8 := hv.2.1
  have hj := chV_lt j hc
  have hw := wlk_ok (rl := rl) (cs := cs) hv i
  obtain ⟨e, hz⟩ := mn_e hw
  have eW : wlk V n rl cs (i + 1) = stV (wlk V n rl cs i) (some j) := by
    show stV (wlk V n rl cs i) (chV (wlk V n rl cs i) n rl cs) = _
    rw [hc]
  rw [eW] at hl
  unfold vLb at hl
  have hl := of_decide_eq_true hl
  rw [st_some (by omega) (by omega), if_pos rfl, wlk_o h8 (by omega) i, hD, liT_n e hz ((wlk_44 h8 i).trans hT) hT4] at hl
  by_cases c : nI D < nI (min 9999 (mnV (wlk V n rl cs i) + T))
  · rw [if_pos c] at hl
    exact absurd hl (by decide)
  · have : ¬ D < min 9999 (mnV (wlk V n rl cs i) + T) := fun z => c (nI_lt z (by omega))
    omega
theorem slP_late {V : Nat → Int32} {n j D T : Nat} {rl : Option Nat} {cs : List Cl} (hv : wOk V n) (hD : V 1 = nI D) (hD3 : D ≤ 300) (hT : V (44 + j) = nI T) (hT4 : T ≤ 40) (h : slP V n rl cs j) : mnV V + T ≤ D := by
  obtain ⟨i, -, hc, -, hl⟩ := h
  have := late hv hD hD3 hT hT4 hc hl
  have m := mn_wlk (rl := rl) (cs := cs) hv (i := 0) i
  rw [Nat.zero_add] at m
  have m : mnV V ≤ mnV (wlk V n rl cs i) := m
  omega
theorem c_soon {h : xH} {n j D T : Nat} {V : Nat → Int32} {rl : Option Nat} {cs : List Cl} (hj : j < n) (hD : V 1 = nI D) (hD3 : D ≤ 300) (hT : V (44 + j) = nI T) (hT4 : T ≤ 40) (hw : wkA h V n rl cs) : ∃ (b : Bool) (h2 : xH), f_B_isLetBeAfter_l42 (nI j) (nI D - nI T) 0 h = some (if b then 1 else 0, h2) ∧ (b = true ↔ slP V n rl cs j) ∧ wkF h h2 := by
  have hv := hw.2.1
  have h8 := hv.2.1
  have key := whl_cntE (step := fun s : Int32 × xH => f_B_isLetBeAfter_s42 (nI j) (nI D - nI T) s.1 s.2) 100 (fun i s => s.1 = nI i ∧ wkA s.2 (wlk V n rl cs i) n rl cs ∧ wkF h s.2 ∧ ∀ i', i' < i → ¬ chV (wlk V n rl cs i') n rl cs = some j) (fun x => ∃ (b : Bool) (h2 : xH), x = (if b then 1 else 0, h2) ∧ (b = true ↔ slP V n rl cs j) ∧ wkF h h2) ?_ ?_ (0, h) ⟨nI_0.symm, hw, wkF_refl h, fun i' hi => absurd hi (by omega)⟩
  · obtain ⟨x, e, b, h2, rfl, r⟩ := key
    exact ⟨b, h2, e, r⟩
  · rintro i hi ⟨q1, g⟩ ⟨e1, wg, f, l⟩
    have e1 : q1 = nI i := e1
    subst e1
    have wg : wkA g (wlk V n rl cs i) n rl cs := wg
    have f : wkF h g := f
    obtain ⟨⟨st, ⟨s1, s2, s3, s4, s5⟩, hst⟩, hwi, -⟩ := id wg
    obtain ⟨em, hm⟩ := mn_e hwi
    have cmp : (nI D - nI T < g.1 6 0 25) ↔ D < mnV (wlk V n rl cs i) + T := by
      rw [s1.1, em, Int32.lt_iff_toInt_lt, pk_sub_toInt (by omega) (by omega), nI_toInt (by omega)]
      omega
    have n100 : ¬ (100 : Int32) ≤ nI i := nI_ge (b := 100) hi (by decide)
    by_cases c1 : D < mnV (wlk V n rl cs i) + T
    · right
      refine ⟨_, ?_, false, g, rfl, ⟨fun z => by (cases z), fun ⟨i0, _, hc, _, hl⟩ => ?_⟩, f⟩
      · show f_B_isLetBeAfter_s42 (nI j) (nI D - nI T) (nI i) g = _
        unfold f_B_isLetBeAfter_s42
        rw [if_neg n100, if_pos (cmp.mpr c1)]
        rfl
      · exfalso
        have := late hv hD hD3 hT hT4 hc hl
        have i0i : i ≤ i0 := by
          by_cases q : i ≤ i0
          · exact q
          · exact absurd hc (l i0 (by omega))
        have m := mn_wlk (rl := rl) (cs := cs) hv (i := i) (i0 - i)
        rw [show i + (i0 - i) = i0 by omega] at m
        omega
    · rcases hst with h0 | ⟨h1, hs⟩
      · obtain ⟨g2, eg2, w2, f2⟩ := c_goOn wg
        have ff := wkF_trans f f2
        have run : f_B_isLetBeAfter_s42 (nI j) (nI D - nI T) (nI i) g = (if oI (chV (wlk V n rl cs i) n rl cs) = nI j then xup (f_B_isLetBeAfter_b84 (nI j) g2) else some (Sum.inl (nI (i + 1), g2))) := by
          unfold f_B_isLetBeAfter_s42
          rw [if_neg n100, if_neg (fun z => c1 (cmp.mp z)), s5, if_pos h0, eg2, Option.bind_some, ← nI_1]
          rfl
        by_cases c2 : chV (wlk V n rl cs i) n rl cs = some j
        · right
          have w2 : wkA g2 (wlk V n rl cs (i + 1)) n rl cs := w2
          obtain ⟨⟨st2, ⟨t1, -⟩, -⟩, -⟩ := w2
          refine ⟨(if vLb (wlk V n rl cs (i + 1)) j then 1 else 0, g2), ?_, vLb (wlk V n rl cs (i + 1)) j, g2, rfl, ⟨fun z => ⟨i, hi, c2, l, z⟩, fun ⟨i0, _, hc, hn, hl⟩ => ?_⟩, ff⟩
          · show f_B_isLetBeAfter_s42 (nI j) (nI D - nI T) (nI i) g = _
            rw [run, c2, if_pos (show oI (some j) = nI j from rfl)]
            unfold f_B_isLetBeAfter_b84
            rw [c_isLetBe_in t1 h8 hj, Option.bind_some]
            cases vLb (wlk V n rl cs (i + 1)) j <;> rfl
          · have : i0 = i := by
              rcases Nat.lt_trichotomy i0 i with q | q | q
              · exact absurd hc (l i0 q)
              · exact q
              · exact absurd c2 (hn i q)
            rw [← this]
            exact hl
        · left
          have ne : ¬ oI (chV (wlk V n rl cs i) n rl cs) = nI j := by
            cases hq : chV (wlk V n rl cs i) n rl cs with
            | none => exact fun z => nI_nm1 (show j < 2 ^ 31 by omega) z.symm
            | some k =>
              have hk := chV_lt k hq
              intro z
              have : k = j := (nI_eq (by omega) (by omega)).mp z
              rw [hq, this] at c2
              exact c2 rfl
          refine ⟨(nI (i + 1), g2), ?_, rfl, w2, ff, fun i' hi' => ?_⟩
          · show f_B_isLetBeAfter_s42 (nI j) (nI D - nI T) (nI i) g = _
            rw [run, if_neg ne]
          · by_cases q : i' = i
            · subst q; exact c2
            · exact l i' (by omega)
      · right
        have non : ∀ d, chV (wlk V n rl cs (i + d)) n rl cs = none ∧ stl (wlk V n rl cs (i + d)) n rl cs := by
          intro d
          induction d with
          | zero => exact ⟨stl_c hs, hs⟩
          | succ d ih =>
            have e : wlk V n rl cs (i + (d + 1)) = stV (wlk V n rl cs (i + d)) none := by
              show stV (wlk V n rl cs (i + d)) (chV (wlk V n rl cs (i + d)) n rl cs) = _
              rw [ih.1]
            have s' := stl_st ih.2
            rw [← e] at s'
            exact ⟨stl_c s', s'⟩
        refine ⟨_, ?_, false, g, rfl, ⟨fun z => by (cases z), fun ⟨i0, _, hc, _, hl⟩ => ?_⟩, f⟩
        · show f_B_isLetBeAfter_s42 (nI j) (nI D - nI T) (nI i) g = _
          unfold f_B_isLetBeAfter_s42
          rw [if_neg n100, if_neg (fun z => c1 (cmp.mp z)), s5, h1, if_neg (by decide)]
          rfl
        · exfalso
          have i0i : i ≤ i0 := by
            by_cases q : i ≤ i0
            · exact q
            · exact absurd hc (l i0 (by omega))
          have := (non (i0 - i)).1
          rw [show i + (i0 - i) = i0 by omega, hc] at this
          cases this
  · rintro ⟨q1, g⟩ ⟨e1, wg, f, l⟩
    have e1 : q1 = nI 100 := e1
    subst e1
    refine ⟨_, ?_, false, g, rfl, ⟨fun z => by (cases z), fun ⟨i0, hi0, hc, _, hl⟩ => absurd hc (l i0 hi0)⟩, f⟩
    show f_B_isLetBeAfter_s42 (nI j) (nI D - nI T) (nI 100) g = _
    unfold f_B_isLetBeAfter_s42
    rw [if_pos (show (100 : Int32) ≤ nI 100 by decide)]
    rfl
theorem m_soon {h0 h : xH} {n j : Nat} {V0 V : Nat → Int32} {rl : Option Nat} {cs : List Cl} (hj : j < n) (hw : mwR h0 h V0 V) (hv : wOk V n) (hf : h0.1 12 21 0 = oI rl) (hr : ∀ r, rl = some r → r < 6 ∧ mcR h0 r 0 0 cs) : ∃ (b : Bool) (h2 : xH) (i : Nat), f_M_isLetBeSoon (nI j) h = some (if b then 1 else 0, h2) ∧ (b = true ↔ slP V n rl cs j) ∧ mwR h0 h2 V0 (wlk V n rl cs i) := by
  have h8 := hv.2.1
  have key := whl_cntE (step := fun s : Int32 × xH => f_M_isLetBeSoon_s2 (nI j) s.1 s.2) 100 (fun i s => s.1 = nI i ∧ mwR h0 s.2 V0 (wlk V n rl cs i) ∧ ∀ i', i' < i → ¬ chV (wlk V n rl cs i') n rl cs = some j) (fun x => ∃ (b : Bool) (h2 : xH) (i : Nat), x = (if b then 1 else 0, h2) ∧ (b = true ↔ slP V n rl cs j) ∧ mwR h0 h2 V0 (wlk V n rl cs i)) ?_ ?_ (0, h) ⟨nI_0.symm, hw, fun i' hi => absurd hi (by omega)⟩
  · obtain ⟨x, e, b, h2, i, rfl, r⟩ := key
    exact ⟨b, h2, i, e, r⟩
  · rintro i hi ⟨q1, g⟩ ⟨e1, wg, l⟩
    have e1 : q1 = nI i := e1
    subst e1
    obtain ⟨g2, eg2, w2⟩ := m_passW (h' := g) wg (wlk_ok hv i) hf hr
    have w2 : mwR h0 g2 V0 (wlk V n rl cs (i + 1)) := w2
    have run : f_M_isLetBeSoon_s2 (nI j) (nI i) g = (if oI (chV (wlk V n rl cs i) n rl cs) = nI j then xup (f_M_isLetBeSoon_b16 (nI j) g2) else some (Sum.inl (nI (i + 1), g2))) := by
      unfold f_M_isLetBeSoon_s2
      rw [if_neg (show ¬ (100 : Int32) ≤ nI i from nI_ge (b := 100) hi (by decide)), eg2, Option.bind_some, ← nI_1]
      rfl
    by_cases c2 : chV (wlk V n rl cs i) n rl cs = some j
    · right
      refine ⟨(if vLb (wlk V n rl cs (i + 1)) j then 1 else 0, g2), ?_, vLb (wlk V n rl cs (i + 1)) j, g2, i + 1, rfl, ⟨fun z => ⟨i, hi, c2, l, z⟩, fun ⟨i0, _, hc, hn, hl⟩ => ?_⟩, w2⟩
      · show f_M_isLetBeSoon_s2 (nI j) (nI i) g = _
        rw [run, c2, if_pos (show oI (some j) = nI j from rfl)]
        unfold f_M_isLetBeSoon_b16
        have eW : g2.2.2.2.1 56 0 (12 + j) = wlk V n rl cs (i + 1) (12 + j) := congrFun w2.2.2.2 _
        rw [if_pos (xibA (c := 12) (a := 12) rfl (by omega) (by decide)), ixA (c := 12) (a := 12) rfl (by omega), eW]
        unfold vLb
        by_cases q : wlk V n rl cs (i + 1) (12 + j) = 1
        · rw [if_pos q, decide_eq_true q]
          rfl
        · rw [if_neg q, decide_eq_false q]
          rfl
      · have : i0 = i := by
          rcases Nat.lt_trichotomy i0 i with q | q | q
          · exact absurd hc (l i0 q)
          · exact q
          · exact absurd c2 (hn i q)
        rw [← this]
        exact hl
    · left
      have ne : ¬ oI (chV (wlk V n rl cs i) n rl cs) = nI j := by
        cases hq : chV (wlk V n rl cs i) n rl cs with
        | none => exact fun z => nI_nm1 (show j < 2 ^ 31 by omega) z.symm
        | some k =>
          have hk := chV_lt k hq
          intro z
          have : k = j := (nI_eq (by omega) (by omega)).mp z
          rw [hq, this] at c2
          exact c2 rfl
      refine ⟨(nI (i + 1), g2), ?_, rfl, w2, fun i' hi' => ?_⟩
      · show f_M_isLetBeSoon_s2 (nI j) (nI i) g = _
        rw [run, if_neg ne]
      · by_cases q : i' = i
        · subst q; exact c2
        · exact l i' (by omega)
  · rintro ⟨q1, g⟩ ⟨e1, wg, l⟩
    have e1 : q1 = nI 100 := e1
    subst e1
    refine ⟨_, ?_, false, g, 100, rfl, ⟨fun z => by (cases z), fun ⟨i0, hi0, hc, _, hl⟩ => absurd hc (l i0 hi0)⟩, wg⟩
    show f_M_isLetBeSoon_s2 (nI j) (nI 100) g = _
    unfold f_M_isLetBeSoon_s2
    rw [if_pos (show (100 : Int32) ≤ nI 100 by decide)]
    rfl
