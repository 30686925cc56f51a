/-! PURE: the reference reckons a row of signs -/
/-- only the stack of the reference has changed -/
def rkF (h h' : xH) : Prop := (∀ c k i, ¬ (c = 12 ∧ k = 18) → h'.1 c k i = h.1 c k i) ∧ h'.2.1 = h.2.1 ∧ h'.2.2.1 = h.2.2.1 ∧ h'.2.2.2.1 = h.2.2.2.1 ∧ ∀ f i, ¬ f = 54 → h'.2.2.2.2 f i = h.2.2.2.2 f i
theorem rkF_refl (h : xH) : rkF h h := ⟨fun _ _ _ _ => rfl, rfl, rfl, rfl, fun _ _ _ => rfl⟩
theorem rkF_trans {h h1 h2 : xH} (a : rkF h h1) (b : rkF h1 h2) : rkF h h2 := ⟨fun c k i q => (b.1 c k i q).trans (a.1 c k i q), b.2.1.trans a.2.1, b.2.2.1.trans a.2.2.1, b.2.2.2.1.trans a.2.2.2.1, fun f i q => (b.2.2.2.2 f i q).trans (a.2.2.2.2 f i q)⟩
/-- the stack stands for st -/
def rkS (h : xH) (st : List Int64) : Prop := h.1 12 18 0 = nI st.length ∧ skR (h.2.2.2.2 54 0) st
theorem m_push {h : xH} {st : List Int64} (x : Int64) (hs : rkS h st) (hl : st.length < 64) : ∃ h2, f_M_push x h = some h2 ∧ rkS h2 (x :: st) ∧ rkF h h2 := by
  obtain ⟨s1, s2⟩ := hs
  have run : f_M_push x h = some (xsI (xsB h 54 0 (vp_updL (h.2.2.2.2 54 0) st.length x)) 12 18 0 (nI (st.length + 1))) := by
    show (if xib (h.1 12 18 0) 64 then some (xsI (xsB h 54 0 (vp_updL (h.2.2.2.2 54 0) (h.1 12 18 0).toNatClampNeg x)) 12 18 0 (h.1 12 18 0 + 1)) else none) = _
    rw [s1, if_pos (xibN hl (by decide)), nI_clamp (by omega), nI_1]
  refine ⟨_, run, ⟨rdI_s, ?_⟩, ⟨fun c k i q => rdI q, rfl, rfl, rfl, fun f i q => rdB_n (by omega)⟩⟩
  show skR ((xsB h 54 0 (vp_updL (h.2.2.2.2 54 0) st.length x)).2.2.2.2 54 0) (x :: st)
  rw [rdB_s]
  exact skR_put s2
theorem m_pop {h : xH} {x : Int64} {st : List Int64} (hs : rkS h (x :: st)) (hl : st.length < 64) : ∃ h2, f_M_pop h = some (x, h2) ∧ rkS h2 st ∧ rkF h h2 := by
  obtain ⟨s1, s2, s3⟩ := hs
  have s1 : h.1 12 18 0 = nI (st.length + 1) := s1
  have run : f_M_pop h = some (x, xsI h 12 18 0 (nI st.length)) := by
    show (if xib ((xsI h 12 18 0 (h.1 12 18 0 - 1)).1 12 18 0) 64 then some ((xsI h 12 18 0 (h.1 12 18 0 - 1)).2.2.2.2 54 0 ((xsI h 12 18 0 (h.1 12 18 0 - 1)).1 12 18 0).toNatClampNeg, xsI h 12 18 0 (h.1 12 18 0 - 1)) else none) = _
    rw [rdI_s, s1, nI_pred, if_pos (xibN hl (by decide)), nI_clamp (by omega)]
    show some (h.2.2.2.2 54 0 st.length, _) = _
    rw [s2]
  exact ⟨_, run, ⟨rdI_s, s3⟩, ⟨fun c k i q => rdI q, rfl, rfl, rfl, fun _ _ _ => rfl⟩⟩
theorem m_tok {h : xH} {w : Nat → Int64} {N r i e : Nat} {t : Nat × Nat} {st st' : List Int64} (hN : N ≤ 63) (hr : r < 6) (hi : i < e) (he : e ≤ 400) (hg : tkG t) (hw : ∀ v, v < 12 → h.2.2.2.2 55 0 v = w v) (hc : h.2.2.2.1 48 0 (400 * r + i) = tI t) (hs : rkS h st) (hl : st.length ≤ N) (hv : evT w N t st = some st') : ∃ h2, f_M_reckons_s8 (nI r) (nI e) (nI i) h = some (Sum.inl (nI (i + 1), h2)) ∧ rkS h2 st' ∧ rkF h h2 := by
  have e4 : (400 : Int32) * nI r = nI (400 * r) := pk_mul 400 r
  have x1 : xib (((400 : Int32) * nI r) + nI i) 2400 := by
    rw [e4]; exact xibA rfl (by omega) (by decide)
  have c1 : (h.2.2.2.1 48 0 (((400 : Int32) * nI r) + nI i).toNatClampNeg) = tI t := by
    rw [e4, ixA rfl (by omega)]; exact hc
  unfold f_M_reckons_s8
  rw [if_neg (nI_ge hi (by omega)), if_pos x1, xlet_e, if_pos x1, xlet_e, c1, tI_s hg, tI_v hg]
  obtain ⟨g1, g2, g3⟩ := hg
  unfold evT at hv
  by_cases t0 : t.1 = 0
  · rw [if_pos t0] at hv
    rw [t0, if_pos nI_0]
    split at hv
    · cases hv
      obtain ⟨h2, e2, s2, f2⟩ := m_push (nI t.2).toInt64 hs (by omega)
      rw [e2, Option.bind_some]
      exact ⟨h2, by rw [← nI_1]; rfl, s2, f2⟩
    · cases hv
  rw [if_neg t0] at hv
  rw [if_neg (nI_ne0 (by omega) (by omega))]
  by_cases t1 : t.1 = 1
  · rw [if_pos t1] at hv
    rw [t1, if_pos (show nI 1 = 1 from rfl), if_pos (xibN (g3 t1) (by decide)), nI_clamp (by omega), hw t.2 (g3 t1)]
    split at hv
    · cases hv
      obtain ⟨h2, e2, s2, f2⟩ := m_push (w t.2) hs (by omega)
      rw [e2, Option.bind_some]
      exact ⟨h2, by rw [← nI_1]; rfl, s2, f2⟩
    · cases hv
  rw [if_neg t1] at hv
  rw [if_neg (show ¬ nI t.1 = (1 : Int32) from fun z => t1 ((nI_eq (a := t.1) (b := 1) (by omega) (by decide)).mp z))]
  by_cases t11 : t.1 = 11
  · rw [if_pos t11] at hv
    rw [t11, if_pos (show nI 11 = 11 from rfl)]
    cases st with
    | nil => cases hv
    | cons x r =>
      cases hv
      have hl' : r.length + 1 ≤ N := hl
      obtain ⟨h1, e1, s1, f1⟩ := m_pop hs (by omega)
      obtain ⟨h2, e2, s2, f2⟩ := m_push (1 - x) s1 (by omega)
      rw [e1, Option.bind_some, e2, Option.bind_some]
      exact ⟨h2, by rw [← nI_1]; rfl, s2, rkF_trans f1 f2⟩
  rw [if_neg t11] at hv
  rw [if_neg (show ¬ nI t.1 = (11 : Int32) from fun z => t11 ((nI_eq (a := t.1) (b := 11) (by omega) (by decide)).mp z))]
  cases st with
  | nil => cases hv
  | cons y r =>
    cases r with
    | nil => cases hv
    | cons x r =>
      cases hv
      have hl' : r.length + 1 + 1 ≤ N := hl
      obtain ⟨h1, e1, s1, f1⟩ := m_pop hs (show r.length + 1 < 64 by omega)
      obtain ⟨h2, e2, s2, f2⟩ := m_pop s1 (by omega)
      obtain ⟨h3, e3, s3, f3⟩ := m_push (opI t.1 x y) s2 (by omega)
      rw [e1, Option.bind_some, e2, Option.bind_some, m_one (by omega) g1 t11, Option.bind_some, e3, Option.bind_some]
      exact ⟨h3, by rw [← nI_1]; rfl, s3, rkF_trans f1 (rkF_trans f2 f3)⟩
/-- a row of signs stands at a place -/
def tkA (A : Nat → Int32) (p : Nat) (ts : List (Nat × Nat)) : Prop := ∀ i, (hi : i < ts.length) → A (p + i) = tI ts[i] ∧ tkG ts[i]
theorem tkA_t {A : Nat → Int32} {p : Nat} {t : Nat × Nat} {ts : List (Nat × Nat)} (h : tkA A p (t :: ts)) : (A p = tI t ∧ tkG t) ∧ tkA A (p + 1) ts := by
  refine ⟨h 0 (Nat.succ_pos _), fun i hi => ?_⟩
  have := h (i + 1) (Nat.succ_lt_succ hi)
  rw [show p + 1 + i = p + (i + 1) by omega]
  exact this
theorem m_toks {w : Nat → Int64} {N r e : Nat} (hN : N ≤ 63) (hr : r < 6) (he : e ≤ 400) : ∀ (ts : List (Nat × Nat)) {h : xH} {i : Nat} {st st' : List Int64}, i + ts.length ≤ e → (∀ v, v < 12 → h.2.2.2.2 55 0 v = w v) → tkA (h.2.2.2.1 48 0) (400 * r + i) ts → rkS h st → st.length ≤ N → evs w N ts st = some st' → ∃ h2, whl (fun s => f_M_reckons_s8 (nI r) (nI e) s.1 s.2) (nI i, h) = whl (fun s => f_M_reckons_s8 (nI r) (nI e) s.1 s.2) (nI (i + ts.length), h2) ∧ rkS h2 st' ∧ rkF h h2
  | [], h, i, st, st', _, _, _, hs, _, hv => by
    have : st = st' := Option.some.inj hv
    subst this
    exact ⟨h, rfl, hs, rkF_refl h⟩
  | t :: ts, h, i, st, st', hi, hw, hc, hs, hl, hv => by
    have hi' : i + (ts.length + 1) ≤ e := hi
    have hv' : (evT w N t st).bind (evs w N ts) = some st' := hv
    cases ht : evT w N t st with
    | none => rw [ht] at hv'; cases hv'
    | some s1 =>
      rw [ht] at hv'
      obtain ⟨⟨a1, a2⟩, a3⟩ := tkA_t hc
      obtain ⟨h1, e1, r1, f1⟩ := m_tok hN hr (show i < e by omega) he a2 hw a1 hs hl ht
      obtain ⟨h2, e2, r2, f2⟩ := m_toks hN hr he ts (h := h1) (i := i + 1) (st := s1) (st' := st') (by omega) (fun v hv => by rw [f1.2.2.2.2 55 0 (by decide)]; exact hw v hv) (by rw [f1.2.2.2.1]; exact a3) r1 (evT_len ht hl) hv'
      refine ⟨h2, ?_, r2, rkF_trans f1 f2⟩
      rw [whl_st (s := (nI i, h)) (s' := (nI (i + 1), h1)) e1, e2, show i + 1 + ts.length = i + (t :: ts).length by show _ = i + (ts.length + 1); omega]
theorem m_reckons {h : xH} {w : Nat → Int64} {r p : Nat} {ts : List (Nat × Nat)} {x : Int64} (hr : r < 6) (hp : p + ts.length ≤ 400) (hw : ∀ v, v < 12 → h.2.2.2.2 55 0 v = w v) (hc : tkA (h.2.2.2.1 48 0) (400 * r + p) ts) (hv : evs w 60 ts [] = some [x]) : ∃ h2, f_M_reckons (nI r) (nI p) (nI (p + ts.length)) h = some (x, h2) ∧ rkF h h2 := by
  obtain ⟨h1, e1, s1, f1⟩ := m_toks (w := w) (N := 60) (r := r) (e := p + ts.length) (by decide) hr hp ts (h := xsI h 12 18 0 0) (i := p) (st := []) (st' := [x]) (Nat.le_refl _) hw hc ⟨by rw [rdI_s]; exact nI_0.symm, trivial⟩ (by decide) hv
  obtain ⟨h2, e2, s2, f2⟩ := m_pop (st := []) s1 (by decide)
  refine ⟨h2, ?_, rkF_trans (h1 := xsI h 12 18 0 0) ⟨fun c k i q => rdI q, rfl, rfl, rfl, fun _ _ _ => rfl⟩ (rkF_trans f1 f2)⟩
  show whl (fun s => f_M_reckons_s8 (nI r) (nI (p + ts.length)) s.1 s.2) (nI p, xsI h 12 18 0 0) = _
  rw [e1]
  refine whl_en ?_
  show f_M_reckons_s8 (nI r) (nI (p + ts.length)) (nI (p + ts.length)) h1 = _
  unfold f_M_reckons_s8 f_M_reckons_b135
  rw [if_pos (Int32.le_refl _), e2]
  rfl
/-! clauses -/
abbrev Cl := List (Nat × Nat) × Option (List (Nat × Nat))
/-- the first of a row of signs that are left on the stack -/
def valW (w : Nat → Int64) (ts : List (Nat × Nat)) : Int64 := match evs w 60 ts [] with | some (x :: _) => x | some [] => 0 | none => 0
def wrt (w : Nat → Int64) : List Cl → Int64
  | [] => 0
  | (ls, none) :: _ => valW w ls
  | (ls, some l) :: rest => if valW w l = 1 then valW w ls else wrt w rest
/-- signs that leave just one number -/
def sumG (ts : List (Nat × Nat)) : Prop := ∀ w, ∃ x, evs w 60 ts [] = some [x]
/-- .. which is 0 or 1 -/
def tstG (ts : List (Nat × Nat)) : Prop := ∀ w, ∃ x, evs w 60 ts [] = some [x] ∧ (x = 0 ∨ x = 1)
theorem valW_s {ts : List (Nat × Nat)} (h : sumG ts) (w : Nat → Int64) : evs w 60 ts [] = some [valW w ts] := by
  obtain ⟨x, e⟩ := h w
  unfold valW
  rw [e]
theorem valW_t {ts : List (Nat × Nat)} (h : tstG ts) (w : Nat → Int64) : evs w 60 ts [] = some [valW w ts] ∧ (valW w ts = 0 ∨ valW w ts = 1) := by
  obtain ⟨x, e, hx⟩ := h w
  unfold valW
  rw [e]
  exact ⟨rfl, hx⟩
/-- the reference's clauses of rule r from the c-th on, whose signs begin at p -/
def mcR (h : xH) (r : Nat) : Nat → Nat → List Cl → Prop
  | c, _, [] => h.2.2.2.1 51 0 r = nI c ∧ c ≤ 12
  | c, p, (ls, none) :: rest => h.2.2.2.1 50 0 (48 * r + 4 * c) = nI p ∧ h.2.2.2.1 50 0 (48 * r + 4 * c + 1) = nI (p + ls.length) ∧ p + ls.length ≤ 400 ∧ tkA (h.2.2.2.1 48 0) (400 * r + p) ls ∧ sumG ls ∧ h.2.2.2.1 50 0 (48 * r + 4 * c + 2) = -1 ∧ mcR h r (c + 1) (p + ls.length) rest
  | c, p, (ls, some l) :: rest => h.2.2.2.1 50 0 (48 * r + 4 * c) = nI p ∧ h.2.2.2.1 50 0 (48 * r + 4 * c + 1) = nI (p + ls.length) ∧ p + ls.length ≤ 400 ∧ tkA (h.2.2.2.1 48 0) (400 * r + p) ls ∧ sumG ls ∧ h.2.2.2.1 50 0 (48 * r + 4 * c + 2) = nI (p + ls.length) ∧ h.2.2.2.1 50 0 (48 * r + 4 * c + 3) = nI (p + ls.length + l.length) ∧ p + ls.length + l.length ≤ 400 ∧ tkA (h.2.2.2.1 48 0) (400 * r + (p + ls.length)) l ∧ tstG l ∧ mcR h r (c + 1) (p + ls.length + l.length) rest
theorem mcR_len {h : xH} {r : Nat} : ∀ {cs : List Cl} {c p : Nat}, mcR h r c p cs → h.2.2.2.1 51 0 r = nI (c + cs.length) ∧ c + cs.length ≤ 12
  | [], c, p, hm => hm
  | (ls, none) :: rest, c, p, hm => by
    have := mcR_len hm.2.2.2.2.2.2
    rw [show c + 1 + rest.length = c + (rest.length + 1) by omega] at this
    exact this
  | (ls, some l) :: rest, c, p, hm => by
    have := mcR_len hm.2.2.2.2.2.2.2.2.2.2
    rw [show c + 1 + rest.length = c + (rest.length + 1) by omega] at this
    exact this
theorem mcR_of {h h' : xH} {r : Nat} (e : h'.2.2.2.1 = h.2.2.2.1) : ∀ {cs : List Cl} {c p : Nat}, mcR h r c p cs → mcR h' r c p cs
  | [], c, p, hm => by
    show h'.2.2.2.1 51 0 r = nI c ∧ c ≤ 12
    rw [e]; exact hm
  | (ls, none) :: rest, c, p, hm => by
    obtain ⟨a1, a2, a3, a4, a5, a6, a7⟩ := hm
    refine ⟨?_, ?_, a3, ?_, a5, ?_, mcR_of e a7⟩ <;> rw [e] <;> assumption
  | (ls, some l) :: rest, c, p, hm => by
    obtain ⟨a1, a2, a3, a4, a5, a6, a7, a8, a9, b1, b2⟩ := hm
    refine ⟨?_, ?_, a3, ?_, a5, ?_, ?_, a8, ?_, b1, mcR_of e b2⟩ <;> rw [e] <;> assumption
theorem m_sum58 {h : xH} {w : Nat → Int64} {r c p : Nat} {ls : List (Nat × Nat)} (hr : r < 6) (hc : c < 12) (a1 : h.2.2.2.1 50 0 (48 * r + 4 * c) = nI p) (a2 : h.2.2.2.1 50 0 (48 * r + 4 * c + 1) = nI (p + ls.length)) (a3 : p + ls.length ≤ 400) (a4 : tkA (h.2.2.2.1 48 0) (400 * r + p) ls) (a5 : sumG ls) (hw : ∀ v, v < 12 → h.2.2.2.2 55 0 v = w v) : ∃ h2, f_M_summedBy_b58 (nI r) (nI (48 * r + 4 * c)) h = some (valW w ls, h2) ∧ rkF h h2 := by
  obtain ⟨h2, e2, f2⟩ := m_reckons (w := w) hr a3 hw a4 (valW_s a5 w)
  refine ⟨h2, ?_, f2⟩
  unfold f_M_summedBy_b58
  rw [nI_1, if_pos (xibN (show 48 * r + 4 * c < 288 by omega) (by decide)), if_pos (xibN (show 48 * r + 4 * c + 1 < 288 by omega) (by decide)), nI_clamp (show 48 * r + 4 * c < 2 ^ 31 by omega), nI_clamp (show 48 * r + 4 * c + 1 < 2 ^ 31 by omega), a1, a2, e2]
  rfl
theorem m_summed {w : Nat → Int64} {r : Nat} (hr : r < 6) : ∀ (cs : List Cl) {h : xH} {c p : Nat}, (∀ v, v < 12 → h.2.2.2.2 55 0 v = w v) → mcR h r c p cs → ∃ h2, whl (fun s => f_M_summedBy_s2 (nI r) s.1 s.2) (nI c, h) = some (wrt w cs, h2) ∧ rkF h h2
  | [], h, c, p, hw, hm => by
    refine ⟨h, whl_en ?_, rkF_refl h⟩
    obtain ⟨m1, m2⟩ := hm
    show f_M_summedBy_s2 (nI r) (nI c) h = _
    unfold f_M_summedBy_s2
    rw [if_pos (xibN hr (by decide)), nI_clamp (by omega), m1, if_pos (Int32.le_refl _)]
    rfl
  | (ls, none) :: rest, h, c, p, hw, hm => by
    obtain ⟨l1, l2⟩ := mcR_len hm
    have l1 : h.2.2.2.1 51 0 r = nI (c + (rest.length + 1)) := l1
    have l2 : c + (rest.length + 1) ≤ 12 := l2
    obtain ⟨a1, a2, a3, a4, a5, a6, a7⟩ := hm
    obtain ⟨h2, e2, f2⟩ := m_sum58 hr (show c < 12 by omega) a1 a2 a3 a4 a5 hw
    refine ⟨h2, whl_en ?_, f2⟩
    show f_M_summedBy_s2 (nI r) (nI c) h = _
    have e48 : ((48 : Int32) * nI r) + ((4 : Int32) * nI c) = nI (48 * r + 4 * c) := by
      rw [show (48 : Int32) * nI r = nI (48 * r) from pk_mul 48 r, show (4 : Int32) * nI c = nI (4 * c) from pk_mul 4 c, nI_add]
    have e2' : nI (48 * r + 4 * c) + (2 : Int32) = nI (48 * r + 4 * c + 2) := nI_add _ 2
    unfold f_M_summedBy_s2
    rw [if_pos (xibN hr (by decide)), nI_clamp (by omega), l1, if_neg (nI_ge (by omega) (by omega)), e48, xlet_e, e2', if_pos (xibN (show 48 * r + 4 * c + 2 < 288 by omega) (by decide)), if_pos (show h.2.2.2.1 50 0 (nI (48 * r + 4 * c + 2)).toNatClampNeg < 0 by rw [nI_clamp (by omega), a6]; decide), e2]
    rfl
  | (ls, some l) :: rest, h, c, p, hw, hm => by
    obtain ⟨l1, l2⟩ := mcR_len hm
    have l1 : h.2.2.2.1 51 0 r = nI (c + (rest.length + 1)) := l1
    have l2 : c + (rest.length + 1) ≤ 12 := l2
    obtain ⟨a1, a2, a3, a4, a5, a6, a7, a8, a9, b1, b2⟩ := hm
    obtain ⟨v1, v2⟩ := valW_t b1 w
    obtain ⟨h1, e1, f1⟩ := m_reckons (w := w) hr a8 hw a9 v1
    have hw1 : ∀ v, v < 12 → h1.2.2.2.2 55 0 v = w v := fun v hv => by rw [f1.2.2.2.2 55 0 (by decide)]; exact hw v hv
    have fA := f1.2.2.2.1
    have e48 : ((48 : Int32) * nI r) + ((4 : Int32) * nI c) = nI (48 * r + 4 * c) := by
      rw [show (48 : Int32) * nI r = nI (48 * r) from pk_mul 48 r, show (4 : Int32) * nI c = nI (4 * c) from pk_mul 4 c, nI_add]
    have e2' : nI (48 * r + 4 * c) + (2 : Int32) = nI (48 * r + 4 * c + 2) := nI_add _ 2
    have e3' : nI (48 * r + 4 * c) + (3 : Int32) = nI (48 * r + 4 * c + 3) := nI_add _ 3
    have st : f_M_summedBy_s2 (nI r) (nI c) h = (if valW w l = 1 then xup (f_M_summedBy_b58 (nI r) (nI (48 * r + 4 * c)) h1) else some (Sum.inl (nI (c + 1), h1))) := by
      unfold f_M_summedBy_s2
      rw [if_pos (xibN hr (by decide)), nI_clamp (by omega), l1, if_neg (nI_ge (by omega) (by omega)), e48, xlet_e, e2', e3', if_pos (xibN (show 48 * r + 4 * c + 2 < 288 by omega) (by decide)), if_pos (xibN (show 48 * r + 4 * c + 2 < 288 by omega) (by decide)), if_pos (xibN (show 48 * r + 4 * c + 3 < 288 by omega) (by decide)), nI_clamp (show 48 * r + 4 * c + 2 < 2 ^ 31 by omega), nI_clamp (show 48 * r + 4 * c + 3 < 2 ^ 31 by omega), a6, a7, if_neg (nI_pos (by omega)), e1, Option.bind_some, ← nI_1]
      by_cases hv : valW w l = 1
      · rw [if_pos ((lg_cmp_eq _ 1).mpr hv), if_pos hv]
      · rw [if_neg (fun z => hv ((lg_cmp_eq _ 1).mp z)), if_neg hv]
        rfl
    by_cases hv : valW w l = 1
    · obtain ⟨h2, e2, f2⟩ := m_sum58 (h := h1) (w := w) hr (show c < 12 by omega) (by rw [fA]; exact a1) (by rw [fA]; exact a2) a3 (by rw [fA]; exact a4) a5 hw1
      refine ⟨h2, whl_en ?_, rkF_trans f1 f2⟩
      show f_M_summedBy_s2 (nI r) (nI c) h = some (Sum.inr (if valW w l = 1 then valW w ls else wrt w rest, h2))
      rw [st, if_pos hv, if_pos hv, e2]
      rfl
    · obtain ⟨h2, e2, f2⟩ := m_summed hr rest (h := h1) (c := c + 1) (p := p + ls.length + l.length) hw1 (mcR_of fA b2)
      refine ⟨h2, ?_, rkF_trans f1 f2⟩
      rw [whl_st (s := (nI c, h)) (s' := (nI (c + 1), h1)) (st.trans (if_neg hv)), e2]
      show some (wrt w rest, h2) = some (if valW w l = 1 then valW w ls else wrt w rest, h2)
      rw [if_neg hv]
theorem m_summedBy {h : xH} {w : Nat → Int64} {r : Nat} {cs : List Cl} (hr : r < 6) (hw : ∀ v, v < 12 → h.2.2.2.2 55 0 v = w v) (hm : mcR h r 0 0 cs) : ∃ h2, f_M_summedBy (nI r) h = some (wrt w cs, h2) ∧ rkF h h2 := by
  have := m_summed (w := w) hr cs hw hm
  rw [nI_0] at this
  exact this
