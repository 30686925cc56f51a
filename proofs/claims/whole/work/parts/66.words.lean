/-! PURE: the rules' part of the invariant; the words of a sorrow; what the reference weighs -/
theorem mcR_of2 {h h' : xH} {r : Nat} (e48 : h'.2.2.2.1 48 0 = h.2.2.2.1 48 0) (e50 : h'.2.2.2.1 50 0 = h.2.2.2.1 50 0) (e51 : h'.2.2.2.1 51 0 = h.2.2.2.1 51 0) : ∀ {cs : List Cl} {c p : Nat}, mcR h r c p cs → mcR h' r c p cs
  | [], c, p, hm => by
    show h'.2.2.2.1 51 0 r = nI c ∧ c ≤ 12
    rw [e51]; exact hm
  | (ls, none) :: rest, c, p, hm => by
    obtain ⟨a1, a2, a3, a4, a5, a6, a7⟩ := hm
    exact ⟨by rw [e50]; exact a1, by rw [e50]; exact a2, a3, by rw [e48]; exact a4, a5, by rw [e50]; exact a6, mcR_of2 e48 e50 e51 a7⟩
  | (ls, some l) :: rest, c, p, hm => by
    obtain ⟨a1, a2, a3, a4, a5, a6, a7, a8, a9, b1, b2⟩ := hm
    exact ⟨by rw [e50]; exact a1, by rw [e50]; exact a2, a3, by rw [e48]; exact a4, a5, by rw [e50]; exact a6, by rw [e50]; exact a7, a8, by rw [e48]; exact a9, b1, mcR_of2 e48 e50 e51 b2⟩
def noAsk (cs : List Cl) : Prop := ∀ q, q ∈ cs → (∀ t, t ∈ q.1 → ¬ asks t) ∧ ∀ l, q.2 = some l → ∀ t, t ∈ l → ¬ asks t
/-- rule r of both stands for these clauses -/
def ruR (h : xH) (r : Nat) (cs : List Cl) : Prop := mcR h r 0 0 cs ∧ ccR h r 0 0 cs ∧ (h.1 2 3 r = 0 ∨ h.1 2 3 r = 1) ∧ (h.1 2 3 r = 0 → noAsk cs)
def Qr (h : xH) (R : Nat) : Prop := ∀ r, r < R → ∃ cs, ruR h r cs
theorem ruR_of {h h' : xH} {r : Nat} {cs : List Cl} (hs : sameR h h') (hr : ruR h r cs) : ruR h' r cs := by
  obtain ⟨s1, s2, s3, s4, s5, s6⟩ := hs
  obtain ⟨a, b, c, d⟩ := hr
  exact ⟨mcR_of2 (by rw [s3]) (by rw [s5]) (by rw [s6]) a, ccR_of (s1 2 r) (by rw [s2]) b, by rw [s1]; exact c, fun z => d (by rw [← s1]; exact z)⟩
theorem Qr_ok : qOk Qr := fun h h' R hs hq r hr => by
  obtain ⟨cs, hc⟩ := hq r hr
  exact ⟨cs, ruR_of hs hc⟩
/-- how many that are in lie under k -/
def ovV (V : Nat → Int32) (n k : Nat) : Int32 := isum (fun _ => 1) (fun o => vIn V o && (uV V o).testBit k) n
def wV (V : Nat → Int32) (n k v : Nat) : Int64 :=
  if v = 0 then (nI k).toInt64 else if v = 1 then (V (28 + k)).toInt64 else if v = 2 then (V (44 + k)).toInt64 else if v = 3 then (V (52 + k)).toInt64 else if v = 4 then (ovV V n k).toInt64 else if v = 5 then (nI (pc (bs (vIn V) n))).toInt64 else if v = 6 then (nI (pc (bs (vLoose V n) n))).toInt64 else if v = 7 then (V 1 - V 10).toInt64 else if v = 8 then (isum (fun k => V (28 + k)) (vIn V) n + V 2).toInt64 else if v = 9 then (isum (fun k => V (52 + k)) (vLb V) n).toInt64 else if v = 10 then (V 10).toInt64 else if v = 11 then (V 11).toInt64 else 0
/-- what a walk needs of a vector -/
def wOk (V : Nat → Int32) (n : Nat) : Prop := V 3 = nI n ∧ n ≤ 8 ∧ (∃ z, z ≤ 9999 ∧ V 10 = nI z) ∧ ∀ k, k < n → (V (12 + k) = 0 ∨ V (12 + k) = 1 ∨ V (12 + k) = 2) ∧ (∃ z, z < 256 ∧ V (36 + k) = nI z) ∧ ∃ z, z ≤ 40 ∧ V (44 + k) = nI z
theorem wOk_v {V : Nat → Int32} {n m c : Nat} (hv : vOk V n m c) : wOk V n := by
  obtain ⟨-, -, -, -, v3, n8, -, -, v10, -, vk, -⟩ := hv
  refine ⟨v3, n8, v10, fun k hk => ?_⟩
  obtain ⟨a, -, -, ⟨z, hz, e⟩, ⟨y, -, hy, ey⟩, -⟩ := vk k hk
  exact ⟨a, ⟨z, Nat.lt_of_lt_of_le hz (show 2 ^ n ≤ 2 ^ 8 from Nat.pow_le_pow_right (by decide) n8), e⟩, y, hy, ey⟩
theorem uV_w {V : Nat → Int32} {n : Nat} (hv : wOk V n) {k : Nat} (hk : k < n) : V (36 + k) = nI (uV V k) ∧ uV V k < 256 := by
  obtain ⟨-, ⟨z, hz, e⟩, -⟩ := hv.2.2.2 k hk
  have : uV V k = z := by
    show (V (36 + k)).toNatClampNeg = z
    rw [e, nI_clamp (by omega)]
  rw [this]
  exact ⟨e, hz⟩
theorem m_worth4 {h : xH} {n k : Nat} {x : Int64 × xH} (hv : wOk (mS h) n) (hk : k < 8) (hx : f_M_worthOf_b52 (nI k) (ovV (mS h) n k) h = some x) : f_M_worthOf_l4 (nI k) 0 0 h = some x := by
  have hn : mN h n := ⟨hv.1, hv.2.1⟩
  have h8 := hv.2.1
  have e3 : h.2.2.2.1 56 0 ((3 : Int32)).toNatClampNeg = nI n := hv.1
  refine whl_cnt (step := fun s => f_M_worthOf_s4 (nI k) s.1 s.2 h) n (fun o => (isum (fun _ => 1) (fun o => vIn (mS h) o && (uV (mS h) o).testBit k) o, nI o)) x (fun o ho => ?_) ?_
  · show f_M_worthOf_s4 (nI k) (isum (fun _ => 1) (fun o => vIn (mS h) o && (uV (mS h) o).testBit k) o) (nI o) h = some (Sum.inl (isum (fun _ => 1) (fun o => vIn (mS h) o && (uV (mS h) o).testBit k) o + (if (vIn (mS h) o && (uV (mS h) o).testBit k) then 1 else 0), nI (o + 1)))
    obtain ⟨u1, u2⟩ := uV_w hv ho
    have x36 : xib ((36 : Int32) + nI o) 101 := xibA (c := 36) (a := 36) rfl (by omega) (by decide)
    have io : f_M_isOf (h.2.2.2.1 56 0 ((36 : Int32) + nI o).toNatClampNeg) (nI k) h = some (if (uV (mS h) o).testBit k then 1 else 0) := by
      rw [ixA (c := 36) (a := 36) rfl (by omega), show h.2.2.2.1 56 0 (36 + o) = nI (uV (mS h) o) from u1, m_isOf u2 hk]
    unfold f_M_worthOf_s4
    rw [e3, if_neg (nI_ge ho (by omega)), m_isInside_in hn ho, Option.bind_some, mIn_v, ← nI_1]
    cases hi : vIn (mS h) o with
    | false => rfl
    | true =>
      rw [if_pos rfl, if_neg (by decide), if_pos x36, io, Option.bind_some]
      cases hb : (uV (mS h) o).testBit k with
      | false => rfl
      | true => rfl
  · show f_M_worthOf_s4 (nI k) _ (nI n) h = _
    unfold f_M_worthOf_s4
    rw [e3, if_pos (Int32.le_refl _)]
    show xup (f_M_worthOf_b52 (nI k) (ovV (mS h) n k) h) = _
    rw [hx]
    rfl
theorem xsB_2 {h : xH} {c i : Nat} {f g : Nat → Int64} : xsB (xsB h c i f) c i g = xsB h c i g := by
  show (h.1, h.2.1, h.2.2.1, h.2.2.2.1, xw (xw h.2.2.2.2 c i f) c i g) = (h.1, h.2.1, h.2.2.1, h.2.2.2.1, xw h.2.2.2.2 c i g)
  rw [xw_2]
theorem rdBA {h : xH} {c i : Nat} {f : Nat → Int64} : (xsB h c i f).2.2.2.1 = h.2.2.2.1 := rfl
theorem rdBI {h : xH} {c i : Nat} {f : Nat → Int64} : (xsB h c i f).1 = h.1 := rfl
theorem wW_e {B : Nat → Int64} {a0 a1 a2 a3 a4 a5 a6 a7 a8 a9 a10 a11 : Int64} (v : Nat) (hv : v < 12) : vp_updL (vp_updL (vp_updL (vp_updL (vp_updL (vp_updL (vp_updL (vp_updL (vp_updL (vp_updL (vp_updL (vp_updL B 0 a0) 1 a1) 2 a2) 3 a3) 4 a4) 5 a5) 6 a6) 7 a7) 8 a8) 9 a9) 10 a10) 11 a11 v = (if v = 0 then a0 else if v = 1 then a1 else if v = 2 then a2 else if v = 3 then a3 else if v = 4 then a4 else if v = 5 then a5 else if v = 6 then a6 else if v = 7 then a7 else if v = 8 then a8 else if v = 9 then a9 else if v = 10 then a10 else if v = 11 then a11 else 0) := by
  rcases (show v = 0 ∨ v = 1 ∨ v = 2 ∨ v = 3 ∨ v = 4 ∨ v = 5 ∨ v = 6 ∨ v = 7 ∨ v = 8 ∨ v = 9 ∨ v = 10 ∨ v = 11 by omega) with rfl | rfl | rfl | rfl | rfl | rfl | rfl | rfl | rfl | rfl | rfl | rfl <;> rfl
/-- what the reference's weighing leaves -/
def moF (h h' : xH) : Prop := (∀ c k i, ¬ (c = 12 ∧ k = 18) → h'.1 c k i = h.1 c k i) ∧ h'.2.2.2.1 = h.2.2.2.1
theorem moF_refl (h : xH) : moF h h := ⟨fun _ _ _ _ => rfl, rfl⟩
theorem moF_trans {h h1 h2 : xH} (a : moF h h1) (b : moF h1 h2) : moF h h2 := ⟨fun c k i q => (b.1 c k i q).trans (a.1 c k i q), b.2.trans a.2⟩
theorem m_worthOf {h : xH} {n k r : Nat} {cs : List Cl} (hv : wOk (mS h) n) (hk : k < n) (hf : h.1 12 21 0 = nI r) (hr : r < 6) (hm : mcR h r 0 0 cs) : ∃ h2, f_M_worthOf (nI k) h = some (wrt (wV (mS h) n k) cs, h2) ∧ moF h h2 := by
  have h8 := hv.2.1
  have hn : mN h n := ⟨hv.1, hv.2.1⟩
  have pI := bs_lt8 (vIn (mS h)) h8
  have pL := bs_lt8 (vLoose (mS h) n) h8
  obtain ⟨W, eW⟩ : ∃ W, W = vp_updL (vp_updL (vp_updL (vp_updL (vp_updL (vp_updL (vp_updL (vp_updL (vp_updL (vp_updL (vp_updL (vp_updL (h.2.2.2.2 55 0) 0 (nI k).toInt64) 1 (mS h (28 + k)).toInt64) 2 (mS h (44 + k)).toInt64) 3 (mS h (52 + k)).toInt64) 4 (ovV (mS h) n k).toInt64) 5 (nI (pc (bs (vIn (mS h)) n))).toInt64) 6 (nI (pc (bs (vLoose (mS h) n) n))).toInt64) 7 (mS h 1 - mS h 10).toInt64) 8 (isum (fun k => mS h (28 + k)) (vIn (mS h)) n + mS h 2).toInt64) 9 (isum (fun k => mS h (52 + k)) (vLb (mS h)) n).toInt64) 10 (mS h 10).toInt64) 11 (mS h 11).toInt64 := ⟨_, rfl⟩
  have hW : ∀ v, v < 12 → (xsB h 55 0 W).2.2.2.2 55 0 v = wV (mS h) n k v := by
    intro v hv
    rw [rdB_s, eW]
    exact wW_e v hv
  obtain ⟨h2, e2, f2⟩ := m_summedBy (h := xsB h 55 0 W) (w := wV (mS h) n k) hr hW (mcR_of (h := h) (h' := xsB h 55 0 W) rfl hm)
  refine ⟨h2, m_worth4 hv (by omega) ?_, ⟨fun c k i q => f2.1 c k i q, f2.2.2.2.1⟩⟩
  unfold f_M_worthOf_b52
  have x28 : xib ((28 : Int32) + nI k) 101 := xibA (c := 28) (a := 28) rfl (by omega) (by decide)
  have x44 : xib ((44 : Int32) + nI k) 101 := xibA (c := 44) (a := 44) rfl (by omega) (by decide)
  have x52 : xib ((52 : Int32) + nI k) 101 := xibA (c := 52) (a := 52) rfl (by omega) (by decide)
  have i28 : ((28 : Int32) + nI k).toNatClampNeg = 28 + k := ixA (c := 28) (a := 28) rfl (by omega)
  have i44 : ((44 : Int32) + nI k).toNatClampNeg = 44 + k := ixA (c := 44) (a := 44) rfl (by omega)
  have i52 : ((52 : Int32) + nI k).toNatClampNeg = 52 + k := ixA (c := 52) (a := 52) rfl (by omega)
  simp only [xlet_e, rdB_s, xsB_2, rdBA, rdBI]
  rw [if_pos x28, if_pos x44, if_pos x52, i28, i44, i52]
  have eI : ∀ g, f_M_inside (xsB h 55 0 g) = some (nI (bs (vIn (mS h)) n)) := fun g => m_inside (h := xsB h 55 0 g) hn
  have eL : ∀ g, f_M_looseOnes (xsB h 55 0 g) = some (nI (bs (vLoose (mS h) n) n)) := fun g => m_looseOnes (h := xsB h 55 0 g) hn
  have eO : ∀ g, f_M_loadNow (xsB h 55 0 g) = some (isum (fun k => mS h (28 + k)) (vIn (mS h)) n + mS h 2) := fun g => m_loadNow (h := xsB h 55 0 g) hn
  have eT : ∀ g, f_M_letBe (xsB h 55 0 g) = some (isum (fun k => mS h (52 + k)) (vLb (mS h)) n) := fun g => m_letBe (h := xsB h 55 0 g) hn
  simp only [eI, eL, eO, eT, Option.bind_some, m_bits pI, m_bits pL, rdB_s, xsB_2, rdBA, rdBI]
  have e3 : (f_M_summedBy (h.1 12 21 0) (xsB h 55 0 W)).bind (fun q31 => some (q31.1, q31.2)) = some (wrt (wV (mS h) n k) cs, h2) := by
    rw [hf, e2]
    rfl
  rw [eW] at e3
  simp only [show Int32.toNatClampNeg 0 = 0 from rfl, show Int32.toNatClampNeg 1 = 1 from rfl, show Int32.toNatClampNeg 2 = 2 from rfl, show Int32.toNatClampNeg 3 = 3 from rfl, show Int32.toNatClampNeg 4 = 4 from rfl, show Int32.toNatClampNeg 5 = 5 from rfl, show Int32.toNatClampNeg 6 = 6 from rfl, show Int32.toNatClampNeg 7 = 7 from rfl, show Int32.toNatClampNeg 8 = 8 from rfl, show Int32.toNatClampNeg 9 = 9 from rfl, show Int32.toNatClampNeg 10 = 10 from rfl, show Int32.toNatClampNeg 11 = 11 from rfl]
  exact e3
