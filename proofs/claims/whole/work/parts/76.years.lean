/-! PURE: years -/
theorem pc_clr : ∀ B, B < 256 → ∀ k, k < 8 → B.testBit k = true → pc (B - 2 ^ k) + 1 = pc B := by decide +kernel
def yrL (W : Nat → Int32) (n : Nat) : Nat := bs (vLoose W n) n
def yrK (s : (Nat → Int32) × Nat) (n : Nat) : Nat := nthN (yrL s.1 n) (drD (drX s.2) (yrL s.1 n))
def yrS (n : Nat) (s : (Nat → Int32) × Nat) : (Nat → Int32) × Nat := if yrL s.1 n = 0 then s else (liV s.1 (yrK s n), drX s.2)
def yrI (n : Nat) (s : (Nat → Int32) × Nat) : Nat → (Nat → Int32) × Nat := fold (fun _ => yrS n) s
theorem yr_pos {L : Nat} (hL : L < 256) (h0 : L ≠ 0) : 0 < pc L := by
  by_cases h : 0 < pc L
  · exact h
  · exact absurd (pc_0 L hL (by omega)) h0
theorem yr_k {s : (Nat → Int32) × Nat} {n : Nat} (h8 : n ≤ 8) (h0 : yrL s.1 n ≠ 0) : yrK s n < n ∧ vIn s.1 (yrK s n) = true ∧ drD (drX s.2) (yrL s.1 n) < pc (yrL s.1 n) := by
  have hL : yrL s.1 n < 256 := bs_lt8 _ h8
  have hp := yr_pos hL h0
  have p8 := pc_le _ hL
  have hd : drD (drX s.2) (yrL s.1 n) < pc (yrL s.1 n) := Nat.mod_lt _ hp
  obtain ⟨a1, a2, -⟩ := nth_e _ hL _ (by omega) hd
  have a2 : (bs (vLoose s.1 n) n).testBit (yrK s n) = true := a2
  have hk : yrK s n < n := by
    by_cases q : yrK s n < n
    · exact q
    · rw [bs_hi (by omega)] at a2; cases a2
  rw [bs_in hk] at a2
  unfold vLoose at a2
  rw [Bool.and_eq_true] at a2
  exact ⟨hk, a2.1, hd⟩
theorem wOk_li2 {V : Nat → Int32} {n k : Nat} (hv : wOk V n) (hk : k < n) : wOk (liV V k) n := by
  have := wOk_li (t11 := liV V k 11) hv hk
  rw [upd_id] at this
  exact this
theorem yr_ok {n : Nat} {s : (Nat → Int32) × Nat} (hv : wOk s.1 n) : ∀ i, wOk (yrI n s i).1 n
  | 0 => hv
  | i + 1 => by
    have ih := yr_ok hv i
    show wOk (yrS n (yrI n s i)).1 n
    unfold yrS
    split
    · exact ih
    · next h => exact wOk_li2 ih (yr_k hv.2.1 h).1
theorem yr_x {n : Nat} {s : (Nat → Int32) × Nat} (hx : s.2 < 2147483648) : ∀ i, (yrI n s i).2 < 2147483648
  | 0 => hx
  | i + 1 => by
    have ih := yr_x (n := n) hx i
    show (yrS n (yrI n s i)).2 < 2147483648
    unfold yrS
    split
    · exact ih
    · exact drX_lt _
theorem yr_o {n : Nat} {s : (Nat → Int32) × Nat} (h8 : n ≤ 8) {t : Nat} (ht : ¬ (10 ≤ t ∧ t < 44)) : ∀ i, (yrI n s i).1 t = s.1 t
  | 0 => rfl
  | i + 1 => by
    have ih := yr_o (s := s) h8 ht i
    show (yrS n (yrI n s i)).1 t = s.1 t
    unfold yrS
    split
    · exact ih
    · next h =>
      have := (yr_k h8 h).1
      show liV (yrI n s i).1 (yrK (yrI n s i) n) t = _
      rw [liV_o (by omega) (by omega) (by omega)]
      exact ih
theorem yr_fix {n : Nat} {s : (Nat → Int32) × Nat} {i : Nat} (h : yrL (yrI n s i).1 n = 0) : ∀ d, yrI n s (i + d) = yrI n s i
  | 0 => rfl
  | d + 1 => by
    show yrS n (yrI n s (i + d)) = _
    rw [yr_fix h d]
    exact if_pos h
theorem yr_end {n : Nat} {s : (Nat → Int32) × Nat} (hv : wOk s.1 n) : yrL (yrI n s 8).1 n = 0 := by
  have h8 := hv.2.1
  have key : ∀ i, yrL (yrI n s i).1 n = 0 ∨ pc (bs (vIn (yrI n s i).1) n) + i ≤ 8 := by
    intro i
    induction i with
    | zero => exact Or.inr (pc_le _ (bs_lt8 _ h8))
    | succ i ih =>
      have e : yrI n s (i + 1) = yrS n (yrI n s i) := rfl
      by_cases h0 : yrL (yrI n s i).1 n = 0
      · left
        rw [e]
        unfold yrS
        rw [if_pos h0]
        exact h0
      · right
        have ih := ih.resolve_left h0
        obtain ⟨hk, hin, -⟩ := yr_k h8 h0
        rw [e]
        unfold yrS
        rw [if_neg h0]
        generalize yrI n s i = q at ih hk hin
        have c1 : vIn (liV q.1 (yrK q n)) (yrK q n) = false := by
          unfold vIn
          rw [liV_12 (by omega)]
          split <;> decide
        have c2 := bs_clr hin c1 (n := n) (fun j hj e => by
          unfold vIn
          rw [liV_o (by omega) (by omega) (by omega)])
        rw [if_pos hk] at c2
        show pc (bs (vIn (liV q.1 (yrK q n))) n) + (i + 1) ≤ 8
        rw [c2]
        have := pc_clr _ (bs_lt8 (vIn q.1) h8) (yrK q n) (by omega) (by rw [bs_in hk]; exact hin)
        omega
  rcases key 8 with h | h
  · exact h
  · have e0 : bs (vIn (yrI n s 8).1) n = 0 := pc_0 _ (bs_lt8 _ h8) (by omega)
    refine bs_ext (p := vLoose (yrI n s 8).1 n) (n := 0) n (Nat.zero_le _) (fun k _ hk => ?_)
    have := bs_in (p := vIn (yrI n s 8).1) hk
    rw [e0, Nat.zero_testBit] at this
    unfold vLoose
    rw [← this]
    rfl
/-- what of the walk is needed to lift -/
def yrR (h : xH) (W : Nat → Int32) (n : Nat) : Prop := stR h 25 W n ∧ twR h W n ∧ h.2.2.1 10 3 0 = some 0
theorem twR_o {h : xH} {V W : Nat → Int32} {n : Nat} (h8 : n ≤ 8) (ho : ∀ t, ¬ (10 ≤ t ∧ t < 44) → W t = V t) (hr : twR h V n) : twR h W n := by
  obtain ⟨a, b, c⟩ := hr
  exact ⟨by rw [ho 1 (by omega)]; exact a, by rw [ho 2 (by omega)]; exact b, fun k hk => by rw [ho (52 + k) (by omega)]; exact c k hk⟩
theorem c_goByDraws {h : xH} {n : Nat} {s : (Nat → Int32) × Nat} (hv : wOk s.1 n) (hx : s.2 < 2147483648) (hr : yrR h s.1 n) : ∃ h2, f_Walk_goByDraws (nI s.2) h = some (nI (yrI n s 8).2, h2) ∧ yrR h2 (yrI n s 8).1 n ∧ wkF h h2 := by
  have h8 := hv.2.1
  have key := whl_cntE (step := fun q : Int32 × Int32 × xH => f_Walk_goByDraws_s4 q.1 q.2.1 q.2.2) 8 (fun i q => q.1 = nI (yrI n s i).2 ∧ q.2.1 = nI i ∧ yrR q.2.2 (yrI n s i).1 n ∧ wkF h q.2.2) (fun x => ∃ h2, x = (nI (yrI n s 8).2, h2) ∧ yrR h2 (yrI n s 8).1 n ∧ wkF h h2) ?_ ?_ (nI s.2, 0, h) ⟨rfl, nI_0.symm, hr, wkF_refl h⟩
  · obtain ⟨x, e, h2, rfl, r⟩ := key
    exact ⟨h2, e, r⟩
  · rintro i hi ⟨q1, q2, g⟩ ⟨e1, e2, rg, f⟩
    have e1 : q1 = nI (yrI n s i).2 := e1
    have e2 : q2 = nI i := e2
    subst e1; subst e2
    have rg : yrR g (yrI n s i).1 n := rg
    have f : wkF h g := f
    obtain ⟨s1, s2, s3⟩ := id rg
    have hw := yr_ok (s := s) hv i
    have hX := yr_x (n := n) hx i
    have hL : yrL (yrI n s i).1 n < 256 := bs_lt8 _ h8
    have elo : f_State_looseBits 25 g = some (nI (yrL (yrI n s i).1 n)) := c_looseBits s1 h8
    by_cases h0 : yrL (yrI n s i).1 n = 0
    · right
      have ef : yrI n s 8 = yrI n s i := by
        have := yr_fix h0 (8 - i)
        rw [show i + (8 - i) = 8 by omega] at this
        exact this
      refine ⟨_, ?_, g, rfl, by rw [ef]; exact rg, f⟩
      show f_Walk_goByDraws_s4 (nI (yrI n s i).2) (nI i) g = _
      unfold f_Walk_goByDraws_s4
      rw [if_neg (show ¬ (8 : Int32) ≤ nI i from nI_ge (b := 8) hi (by decide)), elo, Option.bind_some, c_bitCount hL, Option.bind_some, h0, pc_z, if_pos nI_0, ef]
    · left
      have hp := yr_pos hL h0
      have p8 := pc_le _ hL
      obtain ⟨hk, hin, hd⟩ := yr_k h8 h0
      obtain ⟨z, hz, e10⟩ := hw.2.2.1
      obtain ⟨-, -, y, hy, ey⟩ := hw.2.2.2 _ hk
      obtain ⟨g1, eg1, t1, f1, f2, -, f4, -⟩ := c_lift (i := 25) s1 h8 hk hin e10 hz ey hy
      have est : yrI n s (i + 1) = (liV (yrI n s i).1 (yrK (yrI n s i) n), drX (yrI n s i).2) := by
        show yrS n (yrI n s i) = _
        exact if_neg h0
      have tl : f_Walk_leastOf (nI (rmv (yrL (yrI n s i).1 n) (drD (drX (yrI n s i).2) (yrL (yrI n s i).1 n)))) g = some (nI (yrK (yrI n s i) n)) := by
        obtain ⟨-, -, -, -, r0, r8⟩ := nth_e _ hL _ (by omega) hd
        exact c_leastOf r8 r0
      have b78 : f_Walk_goByDraws_b78 (nI (drX (yrI n s i).2)) (nI i) (nI (rmv (yrL (yrI n s i).1 n) (drD (drX (yrI n s i).2) (yrL (yrI n s i).1 n)))) g = some (Sum.inl (nI (drX (yrI n s i).2), nI (i + 1), g1)) := by
        unfold f_Walk_goByDraws_b78
        rw [tl, Option.bind_some, s3, Option.bind_some, s2.1, eg1, Option.bind_some, xlet_e, nI_1]
      have run : f_Walk_goByDraws_s4 (nI (yrI n s i).2) (nI i) g = some (Sum.inl (nI (drX (yrI n s i).2), nI (i + 1), g1)) := by
        unfold f_Walk_goByDraws_s4
        rw [if_neg (show ¬ (8 : Int32) ≤ nI i from nI_ge (b := 8) hi (by decide)), elo, Option.bind_some, c_bitCount hL, Option.bind_some, if_neg (nI_ne0 hp (by omega)), c_drX hX, xlet_e, if_pos (nI_ne0 hp (by omega)), xlet_e, c_drD (drX_lt _) hL hp]
        exact c_draws58 hL hd b78
      refine ⟨_, run, ?_⟩
      show nI (drX (yrI n s i).2) = nI (yrI n s (i + 1)).2 ∧ nI (i + 1) = nI (i + 1) ∧ yrR g1 (yrI n s (i + 1)).1 n ∧ wkF h g1
      rw [est]
      refine ⟨rfl, rfl, ⟨t1, ?_, by rw [f4]; exact s3⟩, wkF_trans f ⟨fun c j i' p q => f1 c j i' (by omega), fun a i' q => f2 a i' (by omega)⟩⟩
      refine twR_o h8 (V := (yrI n s i).1) (fun t ht => liV_o (by omega) (by omega) (by omega)) ?_
      unfold twR
      rw [f1 8 1 0 (by decide), f1 8 2 0 (by decide), f2 39 0 (by decide)]
      exact s2
  · rintro ⟨q1, q2, g⟩ ⟨e1, e2, rg, f⟩
    have e1 : q1 = nI (yrI n s 8).2 := e1
    have e2 : q2 = nI 8 := e2
    subst e1; subst e2
    refine ⟨_, ?_, g, rfl, rg, f⟩
    show f_Walk_goByDraws_s4 (nI (yrI n s 8).2) (nI 8) g = _
    unfold f_Walk_goByDraws_s4
    rw [if_pos (show (8 : Int32) ≤ nI 8 by decide)]
/-- the years -/
def yrX (V : Nat → Int32) (n X : Nat) : Nat → Nat
  | 0 => X
  | y + 1 => (yrI n (V, yrX V n X y) 8).2
def yrD (V : Nat → Int32) (n X : Nat) : Nat → Int32
  | 0 => 0
  | y + 1 => yrD V n X y + isum (fun k => (yrI n (V, yrX V n X y) 8).1 (52 + k)) (vLb (yrI n (V, yrX V n X y) 8).1) n
def yrM (V : Nat → Int32) (n X : Nat) : Nat → Int32
  | 0 => 0
  | y + 1 => yrM V n X y + (yrI n (V, yrX V n X y) 8).1 10
theorem yrX_lt {V : Nat → Int32} {n X : Nat} (hX : X < 2147483648) : ∀ y, yrX V n X y < 2147483648
  | 0 => hX
  | y + 1 => yr_x (s := (V, yrX V n X y)) (yrX_lt hX y) 8
/-- the class begins anew, whatever its walk was -/
theorem ask_again {h h1 : xH} {n m : Nat} {rl : Option Nat} {cs : List Cl} {V : Nat → Int32} (hv : wOk V n) (hto : toR h 0 V n m) (hst : stR h 0 V n) (hc : clR h rl cs) (hf4 : h.1 4 2 0 = oI rl) (hn : ∀ h1, h1.1 11 5 0 = h.1 11 5 0 → f_B_ruleNumbered (oI rl) h1 = some rl) (f : wkF h h1) : ∃ h', f_B_startNow h1 = some h' ∧ wkA h' V n rl cs ∧ wkF h h' := by
  obtain ⟨h', e, w, f'⟩ := c_start (h := h1) hv (toR_of (fun k _ => f.1 8 k 0 (by decide) (by omega)) (fun a p q k _ => by rw [f.2 a 0 (by omega)]) (fun k _ => by rw [f.2 41 0 (by omega)]) hto) (stR_of (fun k _ => f.1 6 k 0 (by decide) (by omega)) (fun a p q k _ => by rw [f.2 a 0 (by omega)]) hst) (clR_of (fun k r => f.1 2 k r (by decide) (by omega)) (fun r => f.2 18 r (by omega)) hc)
  refine ⟨h', ?_, w, wkF_trans f f'⟩
  show (f_B_ruleNumbered (h1.1 4 2 0) h1).bind (fun r1 => (f_Walk_start 0 0 r1 h1).bind (fun h5 => some h5)) = _
  rw [f.1 4 2 0 (by decide) (by decide), hf4, hn h1 (f.1 11 5 0 (by decide) (by decide)), Option.bind_some, e]
  rfl
theorem c_years51 {h : xH} {n m M X : Nat} {rl : Option Nat} {cs : List Cl} {V : Nat → Int32} (v2 : Int32) (hM : M ≤ 20) (hX : X < 2147483648) (hv : wOk V n) (hto : toR h 0 V n m) (hst : stR h 0 V n) (hc : clR h rl cs) (hf4 : h.1 4 2 0 = oI rl) (hn : ∀ h1, h1.1 11 5 0 = h.1 11 5 0 → f_B_ruleNumbered (oI rl) h1 = some rl) : ∃ h2, f_B_years_l51 (nI M) v2 0 (nI X) 0 h = some (if v2 = 0 then yrD V n X M else yrM V n X M, h2) ∧ wkF h h2 := by
  have h8 := hv.2.1
  have key := whl_cntE (step := fun q : Int32 × Int32 × Int32 × xH => f_B_years_s51 (nI M) v2 q.1 q.2.1 q.2.2.1 q.2.2.2) M (fun y q => q.1 = (if v2 = 0 then yrD V n X y else yrM V n X y) ∧ q.2.1 = nI (yrX V n X y) ∧ q.2.2.1 = nI y ∧ wkF h q.2.2.2) (fun x => ∃ h2, x = (if v2 = 0 then yrD V n X M else yrM V n X M, h2) ∧ wkF h h2) ?_ ?_ (0, nI X, 0, h) ⟨by show (0 : Int32) = if v2 = 0 then 0 else 0; split <;> rfl, rfl, nI_0.symm, wkF_refl h⟩
  · obtain ⟨x, e, h2, rfl, f⟩ := key
    exact ⟨h2, e, f⟩
  · rintro y hy ⟨q1, q2, q3, g⟩ ⟨e1, e2, e3, f⟩
    have e1 : q1 = (if v2 = 0 then yrD V n X y else yrM V n X y) := e1
    have e2 : q2 = nI (yrX V n X y) := e2
    have e3 : q3 = nI y := e3
    subst e1; subst e2; subst e3
    have f : wkF h g := f
    left
    obtain ⟨g1, eg1, wg1, fg1⟩ := ask_again hv hto hst hc hf4 hn f
    obtain ⟨⟨st, ⟨s1, s2, s3, -, -⟩, -⟩, -⟩ := wg1
    obtain ⟨g2, eg2, rg2, fg2⟩ := c_goByDraws (h := g1) (s := (V, yrX V n X y)) hv (yrX_lt hX y) ⟨s1, s2, s3⟩
    obtain ⟨t1, t2, t3⟩ := rg2
    have ff := wkF_trans fg1 fg2
    show ∃ s', f_B_years_s51 (nI M) v2 (if v2 = 0 then yrD V n X y else yrM V n X y) (nI (yrX V n X y)) (nI y) g = some (Sum.inl s') ∧ s'.1 = (if v2 = 0 then yrD V n X y + isum (fun k => (yrI n (V, yrX V n X y) 8).1 (52 + k)) (vLb (yrI n (V, yrX V n X y) 8).1) n else yrM V n X y + (yrI n (V, yrX V n X y) 8).1 10) ∧ s'.2.1 = nI (yrI n (V, yrX V n X y) 8).2 ∧ s'.2.2.1 = nI (y + 1) ∧ wkF h s'.2.2.2
    have eg2 : f_Walk_goByDraws (nI (yrX V n X y)) g1 = some (nI (yrI n (V, yrX V n X y) 8).2, g2) := eg2
    unfold f_B_years_s51
    rw [if_neg (nI_ge hy (by omega)), eg1, Option.bind_some, eg2, Option.bind_some]
    have ed : f_Told_deepOf 0 (g2.1 6 3 25) g2 = some (isum (fun k => (yrI n (V, yrX V n X y) 8).1 (52 + k)) (vLb (yrI n (V, yrX V n X y) 8).1) n) := c_deepOf2 t2.2.2 h8 t1.2.2.2.1
    rw [ed, Option.bind_some, t1.1]
    by_cases c : v2 = 0
    · rw [if_pos c, if_pos c, if_pos c]
      exact ⟨_, rfl, rfl, rfl, nI_1 y, ff⟩
    · rw [if_neg c, if_neg c, if_neg c]
      exact ⟨_, rfl, rfl, rfl, nI_1 y, ff⟩
  · rintro ⟨q1, q2, q3, g⟩ ⟨e1, e2, e3, f⟩
    have e1 : q1 = (if v2 = 0 then yrD V n X M else yrM V n X M) := e1
    have e3 : q3 = nI M := e3
    subst e1; subst e3
    refine ⟨_, ?_, g, rfl, f⟩
    show f_B_years_s51 (nI M) v2 _ q2 (nI M) g = _
    unfold f_B_years_s51
    rw [if_pos (Int32.le_refl _)]
