/-! PURE: the class reckons a row of code -/
def cwF (h h' : xH) : Prop := h'.1 = h.1 ∧ h'.2.1 = h.2.1 ∧ h'.2.2.1 = h.2.2.1 ∧ h'.2.2.2.1 = h.2.2.2.1 ∧ ∀ f i, ¬ f = 19 → h'.2.2.2.2 f i = h.2.2.2.2 f i
theorem cwF_refl (h : xH) : cwF h h := ⟨rfl, rfl, rfl, rfl, fun _ _ _ => rfl⟩
theorem cwF_trans {h h1 h2 : xH} (a : cwF h h1) (b : cwF h1 h2) : cwF h h2 := ⟨b.1.trans a.1, b.2.1.trans a.2.1, b.2.2.1.trans a.2.2.1, b.2.2.2.1.trans a.2.2.2.1, fun f i q => (b.2.2.2.2 f i q).trans (a.2.2.2.2 f i q)⟩
theorem cwF_B {h : xH} {i : Nat} {f : Nat → Int64} : cwF h (xsB h 19 i f) := ⟨rfl, rfl, rfl, rfl, fun g j q => rdB_n (by omega)⟩
theorem cN_op {t : Nat × Nat} (h0 : t.1 ≠ 0) (h1 : t.1 ≠ 1) (h11 : t.1 ≠ 11) (h14 : t.1 ≤ 14) : 12 ≤ cN t ∧ cN t < 24 := by
  unfold cN
  rw [if_neg h0, if_neg h1]
  split
  · omega
  · split
    · omega
    · split
      · omega
      · split <;> omega
theorem c_tok {h : xH} {w : Nat → Int64} {N r q L : Nat} {t : Nat × Nat} {st st' : List Int64} (hN : N ≤ 63) (hL : h.1 2 2 r = nI L) (hq : q < L) (hL4 : L ≤ 400) (hg : tkG t) (hw : ∀ v, v < 12 → h.2.2.2.2 42 0 v = w v) (hc : h.2.2.2.1 18 r q = nI (cN t)) (hs : skR (h.2.2.2.2 19 r) st) (hl : st.length ≤ N) (hv : evT w N t st = some st') : ∃ h2, f_Rule_worth_42_s4 r (nI st.length) (nI q) h = some (Sum.inl (nI st'.length, nI (q + 1), h2)) ∧ skR (h2.2.2.2.2 19 r) st' ∧ cwF h h2 := by
  have c1 : (h.2.2.2.1 18 r (nI q).toNatClampNeg) = nI (cN t) := by
    rw [nI_clamp (by omega)]; exact hc
  have b76 : ∀ x, st.length < N → ∃ h2, f_Rule_worth_42_b76 r (nI st.length) (nI q) x (nI st.length) h = some (Sum.inl (nI (st.length + 1), nI (q + 1), h2)) ∧ skR (h2.2.2.2.2 19 r) (x :: st) ∧ cwF h h2 := by
    intro x hx
    unfold f_Rule_worth_42_b76
    rw [if_pos (xibN (show st.length < 64 by omega) (by decide)), nI_clamp (by omega), xlet_e, xlet_e, nI_1]
    unfold f_Rule_worth_42_b215
    rw [xlet_e, nI_1]
    refine ⟨_, rfl, ?_, cwF_B⟩
    rw [rdB_s]
    exact skR_put hs
  unfold f_Rule_worth_42_s4
  rw [hL, if_neg (nI_ge hq (by omega)), if_neg (show ¬ (400 : Int32) ≤ nI q from nI_ge (b := 400) (by omega) (by decide)), if_pos (xibN (show q < 400 by omega) (by decide)), xlet_e, c1]
  obtain ⟨g1, g2, g3⟩ := hg
  unfold evT at hv
  by_cases t0 : t.1 = 0
  · rw [if_pos t0] at hv
    have ec : cN t = 100 + t.2 := if_pos t0
    split at hv
    · next hlt =>
      cases hv
      unfold f_Rule_worth_42_b43
      rw [ec, if_pos (show (100 : Int32) ≤ nI (100 + t.2) from nI_le (a := 100) (by omega) (by omega)), if_neg (show ¬ (64 : Int32) ≤ nI st.length from nI_ge (b := 64) (by omega) (by decide)), if_neg (show ¬ nI (100 + t.2) < (100 : Int32) from nI_nlt (b := 100) (by omega) (by omega)), show nI (100 + t.2) - (100 : Int32) = nI t.2 from (pk_sub (a := 100 + t.2) (b := 100) (by omega)).trans (by rw [Nat.add_sub_cancel_left])]
      exact b76 _ hlt
    · cases hv
  rw [if_neg t0] at hv
  by_cases t1 : t.1 = 1
  · rw [if_pos t1] at hv
    have ec : cN t = t.2 := (if_neg t0).trans (if_pos t1)
    have v12 := g3 t1
    split at hv
    · next hlt =>
      cases hv
      have wa : f_Rule_wordAmong_42 (nI t.2) h = some (w t.2) := by
        show (if nI t.2 < 0 then some 0 else if (12 : Int32) ≤ nI t.2 then some 0 else if xib (nI t.2) 12 then some (h.2.2.2.2 42 0 (nI t.2).toNatClampNeg) else none) = _
        rw [if_neg (nI_pos (by omega)), if_neg (show ¬ (12 : Int32) ≤ nI t.2 from nI_ge (b := 12) v12 (by decide)), if_pos (xibN v12 (by decide)), nI_clamp (by omega), hw t.2 v12]
      unfold f_Rule_worth_42_b43
      rw [ec, if_neg (show ¬ (100 : Int32) ≤ nI t.2 from nI_ge (b := 100) (by omega) (by decide)), if_neg (show ¬ (12 : Int32) ≤ nI t.2 from nI_ge (b := 12) v12 (by decide)), if_neg (show ¬ (64 : Int32) ≤ nI st.length from nI_ge (b := 64) (by omega) (by decide)), if_pos (show nI t.2 < (100 : Int32) from nI_lt (b := 100) (by omega) (by decide)), wa, Option.bind_some]
      exact b76 _ hlt
    · cases hv
  rw [if_neg t1] at hv
  by_cases t11 : t.1 = 11
  · rw [if_pos t11] at hv
    have ec : cN t = 24 := by
      unfold cN
      rw [t11]
      rfl
    cases st with
    | nil => cases hv
    | cons x r' =>
      cases hv
      have hl' : r'.length + 1 ≤ N := hl
      have el : (x :: r').length = r'.length + 1 := rfl
      obtain ⟨s1, s2⟩ := hs
      rw [ec, el, if_neg (by decide), if_pos (by decide), if_neg (by decide), if_neg (by decide), if_pos (show nI 24 = (24 : Int32) from rfl), if_neg (show ¬ nI (r'.length + 1) < (1 : Int32) from nI_nlt (b := 1) (by omega) (by omega)), nI_pred, if_pos (xibN (show r'.length < 64 by omega) (by decide)), if_pos (xibN (show r'.length < 64 by omega) (by decide)), nI_clamp (by omega), s1, xlet_e]
      unfold f_Rule_worth_42_b215
      rw [xlet_e, nI_1]
      refine ⟨_, rfl, ?_, cwF_B⟩
      rw [rdB_s]
      exact skR_put s2
  rw [if_neg t11] at hv
  obtain ⟨c2, c3⟩ := cN_op t0 t1 t11 g1
  cases st with
  | nil => cases hv
  | cons y r' =>
    cases r' with
    | nil => cases hv
    | cons x r' =>
      cases hv
      have hl' : r'.length + 1 + 1 ≤ N := hl
      have el : (y :: x :: r').length = r'.length + 1 + 1 := rfl
      obtain ⟨s1, s2, s3⟩ := hs
      have s1 : h.2.2.2.2 19 r (r'.length + 1) = y := s1
      have jo : f_Rule_joined (nI (cN t)) (h.2.2.2.2 19 r (nI r'.length).toNatClampNeg) (h.2.2.2.2 19 r (nI (r'.length + 1)).toNatClampNeg) h = some (opI t.1 x y) := by
        rw [nI_clamp (show r'.length < 2 ^ 31 by omega), nI_clamp (show r'.length + 1 < 2 ^ 31 by omega), s1, s2]
        exact c_joined (s := t.1) (v := t.2) (by omega) g1 t11
      rw [el, if_neg (show ¬ (100 : Int32) ≤ nI (cN t) from nI_ge (b := 100) (by omega) (by decide)), if_pos (show (12 : Int32) ≤ nI (cN t) from nI_le (a := 12) c2 (by omega)), if_neg (show ¬ nI (cN t) = (26 : Int32) from fun z => absurd ((nI_eq (a := cN t) (b := 26) (by omega) (by decide)).mp z) (by omega)), if_neg (show ¬ nI (cN t) = (25 : Int32) from fun z => absurd ((nI_eq (a := cN t) (b := 25) (by omega) (by decide)).mp z) (by omega)), if_neg (show ¬ nI (cN t) = (24 : Int32) from fun z => absurd ((nI_eq (a := cN t) (b := 24) (by omega) (by decide)).mp z) (by omega)), if_neg (show ¬ nI (r'.length + 1 + 1) < (2 : Int32) from nI_nlt (b := 2) (by omega) (by omega)), pk_m1, xlet_e, nI_pred, if_pos (xibN (show r'.length < 64 by omega) (by decide)), if_pos (xibN (show r'.length + 1 < 64 by omega) (by decide)), jo, Option.bind_some, if_pos (xibN (show r'.length < 64 by omega) (by decide)), nI_clamp (show r'.length < 2 ^ 31 by omega), xlet_e]
      unfold f_Rule_worth_42_b215
      rw [xlet_e, nI_1]
      refine ⟨_, rfl, ?_, cwF_B⟩
      rw [rdB_s]
      exact skR_put s3
def ckA (A : Nat → Int32) (p : Nat) (ts : List (Nat × Nat)) : Prop := ∀ i, (hi : i < ts.length) → A (p + i) = nI (cN ts[i]) ∧ tkG ts[i]
theorem ckA_t {A : Nat → Int32} {p : Nat} {t : Nat × Nat} {ts : List (Nat × Nat)} (h : ckA A p (t :: ts)) : (A p = nI (cN t) ∧ tkG t) ∧ ckA A (p + 1) ts := by
  refine ⟨h 0 (Nat.succ_pos _), fun i hi => ?_⟩
  have := h (i + 1) (Nat.succ_lt_succ hi)
  rw [show p + 1 + i = p + (i + 1) by omega]
  exact this
theorem c_toks {w : Nat → Int64} {N r L : Nat} (hN : N ≤ 63) (hL4 : L ≤ 400) : ∀ (ts : List (Nat × Nat)) {h : xH} {q : Nat} {st st' : List Int64}, h.1 2 2 r = nI L → q + ts.length ≤ L → (∀ v, v < 12 → h.2.2.2.2 42 0 v = w v) → ckA (h.2.2.2.1 18 r) q ts → skR (h.2.2.2.2 19 r) st → st.length ≤ N → evs w N ts st = some st' → ∃ h2, whl (fun s => f_Rule_worth_42_s4 r s.1 s.2.1 s.2.2) (nI st.length, nI q, h) = whl (fun s => f_Rule_worth_42_s4 r s.1 s.2.1 s.2.2) (nI st'.length, nI (q + ts.length), h2) ∧ skR (h2.2.2.2.2 19 r) st' ∧ cwF h h2
  | [], h, q, st, st', _, _, _, _, hs, _, hv => by
    have : st = st' := Option.some.inj hv
    subst this
    exact ⟨h, rfl, hs, cwF_refl h⟩
  | t :: ts, h, q, st, st', hL, hi, hw, hc, hs, hl, hv => by
    have hi' : q + (ts.length + 1) ≤ L := hi
    have hv' : (evT w N t st).bind (evs w N ts) = some st' := hv
    cases ht : evT w N t st with
    | none => rw [ht] at hv'; cases hv'
    | some s1 =>
      rw [ht] at hv'
      obtain ⟨⟨a1, a2⟩, a3⟩ := ckA_t hc
      obtain ⟨h1, e1, r1, f1⟩ := c_tok hN hL (show q < L by omega) hL4 a2 hw a1 hs hl ht
      obtain ⟨h2, e2, r2, f2⟩ := c_toks hN hL4 ts (h := h1) (q := q + 1) (st := s1) (st' := st') (by rw [f1.1]; exact hL) (by omega) (fun v hv => by rw [f1.2.2.2.2 42 0 (by decide)]; exact hw v hv) (by rw [f1.2.2.2.1]; exact a3) r1 (evT_len ht hl) hv'
      refine ⟨h2, ?_, r2, cwF_trans f1 f2⟩
      rw [whl_st (s := (nI st.length, nI q, h)) (s' := (nI s1.length, nI (q + 1), h1)) e1, e2, show q + 1 + ts.length = q + (t :: ts).length by show _ = q + (ts.length + 1); omega]
/-- the class's code of rule r from the c-th clause on, whose signs begin at p -/
def ccR (h : xH) (r : Nat) : Nat → Nat → List Cl → Prop
  | c, p, [] => h.1 2 2 r = nI (p + c) ∧ p + c ≤ 400
  | c, p, (ls, none) :: rest => ckA (h.2.2.2.1 18 r) (p + c) ls ∧ sumG ls ∧ h.2.2.2.1 18 r (p + c + ls.length) = 26 ∧ ccR h r (c + 1) (p + ls.length) rest
  | c, p, (ls, some l) :: rest => ckA (h.2.2.2.1 18 r) (p + c) ls ∧ sumG ls ∧ ckA (h.2.2.2.1 18 r) (p + c + ls.length) l ∧ tstG l ∧ h.2.2.2.1 18 r (p + c + ls.length + l.length) = 25 ∧ ccR h r (c + 1) (p + ls.length + l.length) rest
theorem ccR_len {h : xH} {r : Nat} : ∀ {cs : List Cl} {c p : Nat}, ccR h r c p cs → ∃ L, h.1 2 2 r = nI L ∧ L ≤ 400 ∧ p + c ≤ L
  | [], c, p, hm => ⟨p + c, hm.1, hm.2, Nat.le_refl _⟩
  | (ls, none) :: rest, c, p, hm => by
    obtain ⟨L, e1, e2, e3⟩ := ccR_len hm.2.2.2
    exact ⟨L, e1, e2, by omega⟩
  | (ls, some l) :: rest, c, p, hm => by
    obtain ⟨L, e1, e2, e3⟩ := ccR_len hm.2.2.2.2.2
    exact ⟨L, e1, e2, by omega⟩
theorem ccR_of {h h' : xH} {r : Nat} (e1 : h'.1 2 2 r = h.1 2 2 r) (e : h'.2.2.2.1 18 r = h.2.2.2.1 18 r) : ∀ {cs : List Cl} {c p : Nat}, ccR h r c p cs → ccR h' r c p cs
  | [], c, p, hm => by
    show h'.1 2 2 r = nI (p + c) ∧ p + c ≤ 400
    rw [e1]; exact hm
  | (ls, none) :: rest, c, p, hm => by
    obtain ⟨a1, a2, a3, a4⟩ := hm
    exact ⟨by rw [e]; exact a1, a2, by rw [e]; exact a3, ccR_of e1 e a4⟩
  | (ls, some l) :: rest, c, p, hm => by
    obtain ⟨a1, a2, a3, a4, a5, a6⟩ := hm
    exact ⟨by rw [e]; exact a1, a2, by rw [e]; exact a3, a4, by rw [e]; exact a5, ccR_of e1 e a6⟩
theorem c_worths {w : Nat → Int64} {r : Nat} : ∀ (cs : List Cl) {h : xH} {c p : Nat}, (∀ v, v < 12 → h.2.2.2.2 42 0 v = w v) → ccR h r c p cs → ∃ h2, whl (fun s => f_Rule_worth_42_s4 r s.1 s.2.1 s.2.2) (0, nI (p + c), h) = some (wrt w cs, h2) ∧ cwF h h2
  | [], h, c, p, hw, hm => by
    refine ⟨h, whl_en ?_, cwF_refl h⟩
    obtain ⟨m1, m2⟩ := hm
    show f_Rule_worth_42_s4 r 0 (nI (p + c)) h = _
    unfold f_Rule_worth_42_s4
    rw [m1, if_pos (Int32.le_refl _)]
    rfl
  | (ls, none) :: rest, h, c, p, hw, hm => by
    obtain ⟨a1, a2, a3, a4⟩ := hm
    obtain ⟨L, l1, l2, l3⟩ := ccR_len a4
    obtain ⟨h1, e1, s1, f1⟩ := c_toks (w := w) (N := 60) (r := r) (L := L) (by decide) l2 ls (h := h) (q := p + c) (st := []) (st' := [valW w ls]) l1 (by omega) hw a1 trivial (by decide) (valW_s a2 w)
    refine ⟨h1, ?_, f1⟩
    have e1 : whl (fun s => f_Rule_worth_42_s4 r s.1 s.2.1 s.2.2) (0, nI (p + c), h) = whl (fun s => f_Rule_worth_42_s4 r s.1 s.2.1 s.2.2) (nI 1, nI (p + c + ls.length), h1) := e1
    rw [e1]
    refine whl_en ?_
    show f_Rule_worth_42_s4 r (nI 1) (nI (p + c + ls.length)) h1 = _
    unfold f_Rule_worth_42_s4
    have c26 : h1.2.2.2.1 18 r (nI (p + c + ls.length)).toNatClampNeg = 26 := by
      rw [nI_clamp (by omega), f1.2.2.2.1]; exact a3
    rw [f1.1, l1, if_neg (nI_ge (by omega) (by omega)), if_neg (show ¬ (400 : Int32) ≤ nI (p + c + ls.length) from nI_ge (b := 400) (by omega) (by decide)), if_pos (xibN (show p + c + ls.length < 400 by omega) (by decide)), xlet_e, c26, if_neg (by decide), if_pos (by decide), if_pos rfl]
    have b90 : f_Rule_worth_42_b90 r (nI 1) h1 = some (h1.2.2.2.2 19 r 0, h1) := rfl
    rw [b90, show h1.2.2.2.2 19 r 0 = valW w ls from s1.1]
    rfl
  | (ls, some l) :: rest, h, c, p, hw, hm => by
    obtain ⟨a1, a2, a3, a4, a5, a6⟩ := hm
    obtain ⟨L, l1, l2, l3⟩ := ccR_len a6
    obtain ⟨v1, v2⟩ := valW_t a4 w
    obtain ⟨h1, e1, s1, f1⟩ := c_toks (w := w) (N := 60) (r := r) (L := L) (by decide) l2 ls (h := h) (q := p + c) (st := []) (st' := [valW w ls]) l1 (by omega) hw a1 trivial (by decide) (valW_s a2 w)
    obtain ⟨h2, e2, s2, f2⟩ := c_toks (w := w) (N := 61) (r := r) (L := L) (by decide) l2 l (h := h1) (q := p + c + ls.length) (st := [valW w ls]) (st' := [valW w l, valW w ls]) (by rw [f1.1]; exact l1) (by omega) (fun v hv => by rw [f1.2.2.2.2 42 0 (by decide)]; exact hw v hv) (by rw [f1.2.2.2.1]; exact a3) s1 (by decide : 1 ≤ 61) (evs_low (valW w ls) v1)
    have e1 : whl (fun s => f_Rule_worth_42_s4 r s.1 s.2.1 s.2.2) (0, nI (p + c), h) = whl (fun s => f_Rule_worth_42_s4 r s.1 s.2.1 s.2.2) (nI 1, nI (p + c + ls.length), h1) := e1
    have e2 : whl (fun s => f_Rule_worth_42_s4 r s.1 s.2.1 s.2.2) (nI 1, nI (p + c + ls.length), h1) = whl (fun s => f_Rule_worth_42_s4 r s.1 s.2.1 s.2.2) (nI 2, nI (p + c + ls.length + l.length), h2) := e2
    have f12 := cwF_trans f1 f2
    have c25 : h2.2.2.2.1 18 r (nI (p + c + ls.length + l.length)).toNatClampNeg = 25 := by
      rw [nI_clamp (by omega), f12.2.2.2.1]; exact a5
    have x1 : h2.2.2.2.2 19 r ((nI 2 - (1 : Int32))).toNatClampNeg = valW w l := s2.1
    have st : f_Rule_worth_42_s4 r (nI 2) (nI (p + c + ls.length + l.length)) h2 = (if valW w l = 0 then some (Sum.inl (0, nI (p + c + ls.length + l.length + 1), h2)) else some (Sum.inr (valW w ls, h2))) := by
      unfold f_Rule_worth_42_s4
      rw [f12.1, l1, if_neg (nI_ge (by omega) (by omega)), if_neg (show ¬ (400 : Int32) ≤ nI (p + c + ls.length + l.length) from nI_ge (b := 400) (by omega) (by decide)), if_pos (xibN (show p + c + ls.length + l.length < 400 by omega) (by decide)), xlet_e, c25, if_neg (by decide), if_pos (by decide), if_neg (by decide), if_pos rfl, if_neg (by decide), if_pos (show xib (nI 2 - 1) 64 from xibN (j := 1) (by decide) (by decide)), x1]
      by_cases hz : valW w l = 0
      · rw [if_pos ((lg_cmp_eq _ 0).mpr hz), if_pos hz, ← nI_1]
        rfl
      · rw [if_neg (fun z => hz ((lg_cmp_eq _ 0).mp z)), if_neg hz]
        have b133 : f_Rule_worth_42_b133 r (nI 2) h2 = some (h2.2.2.2.2 19 r 0, h2) := rfl
        rw [b133, show h2.2.2.2.2 19 r 0 = valW w ls from s2.2.1]
        rfl
    rw [e1, e2]
    rcases v2 with hz | hz
    · obtain ⟨h3, e3, f3⟩ := c_worths (w := w) rest (h := h2) (c := c + 1) (p := p + ls.length + l.length) (fun v hv => by rw [f12.2.2.2.2 42 0 (by decide)]; exact hw v hv) (ccR_of (by rw [f12.1]) (by rw [f12.2.2.2.1]) a6)
      refine ⟨h3, ?_, cwF_trans f12 f3⟩
      rw [whl_st (s := (nI 2, nI (p + c + ls.length + l.length), h2)) (s' := (0, nI (p + c + ls.length + l.length + 1), h2)) (st.trans (if_pos hz)), show p + c + ls.length + l.length + 1 = p + ls.length + l.length + (c + 1) by omega, e3]
      show some (wrt w rest, h3) = some (if valW w l = 1 then valW w ls else wrt w rest, h3)
      rw [hz, if_neg (by decide)]
    · refine ⟨h2, ?_, f12⟩
      rw [whl_en (s := (nI 2, nI (p + c + ls.length + l.length), h2)) (x := (valW w ls, h2)) (st.trans (if_neg (by rw [hz]; decide)))]
      show some (valW w ls, h2) = some (if valW w l = 1 then valW w ls else wrt w rest, h2)
      rw [if_pos hz]
theorem c_worth {h : xH} {w : Nat → Int64} {r : Nat} {cs : List Cl} (hw : ∀ v, v < 12 → h.2.2.2.2 42 0 v = w v) (hm : ccR h r 0 0 cs) : ∃ h2, f_Rule_worth_42 r h = some (wrt w cs, h2) ∧ cwF h h2 := by
  have := c_worths cs hw hm
  rw [Nat.add_zero, nI_0] at this
  exact this
/-- a rule that doesn't ask the hour is worth the same at all hours -/
theorem wrt_w {w w' : Nat → Int64} (hw : ∀ v, v ≠ 7 → v ≠ 10 → v ≠ 11 → w v = w' v) : ∀ {cs : List Cl}, (∀ q, q ∈ cs → (∀ t, t ∈ q.1 → ¬ asks t) ∧ ∀ l, q.2 = some l → ∀ t, t ∈ l → ¬ asks t) → wrt w cs = wrt w' cs
  | [], _ => rfl
  | (ls, none) :: rest, h => by
    show valW w ls = valW w' ls
    unfold valW
    rw [evs_w hw (h _ List.mem_cons_self).1]
  | (ls, some l) :: rest, h => by
    show (if valW w l = 1 then valW w ls else wrt w rest) = (if valW w' l = 1 then valW w' ls else wrt w' rest)
    have e1 : valW w ls = valW w' ls := by
      unfold valW
      rw [evs_w hw (h _ List.mem_cons_self).1]
    have e2 : valW w l = valW w' l := by
      unfold valW
      rw [evs_w hw ((h _ List.mem_cons_self).2 l rfl)]
    rw [e1, e2, wrt_w hw (fun q hq => h q (List.mem_cons_of_mem _ hq))]
