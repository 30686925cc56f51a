/-! PURE: a step of the class's walk -/
/-- what a walk reads of the Told -/
def twR (h : xH) (V : Nat → Int32) (n : Nat) : Prop := h.1 8 1 0 = V 1 ∧ h.1 8 2 0 = V 2 ∧ ∀ k, k < n → h.2.2.2.1 39 0 k = V (52 + k)
/-- only rows of longs have changed -/
def cgF (h h' : xH) : Prop := h'.1 = h.1 ∧ h'.2.2.1 = h.2.2.1 ∧ h'.2.2.2.1 = h.2.2.2.1
theorem cgF_trans {h h1 h2 : xH} (a : cgF h h1) (b : cgF h1 h2) : cgF h h2 := ⟨b.1.trans a.1, b.2.1.trans a.2.1, b.2.2.trans a.2.2⟩
theorem cgF_of {h h1 : xH} (a : cwF h h1) : cgF h h1 := ⟨a.1, a.2.2.1, a.2.2.2.1⟩
theorem stR_g {h h' : xH} {i n : Nat} {V : Nat → Int32} (f : cgF h h') (hs : stR h i V n) : stR h' i V n := stR_of (fun k _ => by rw [f.1]) (fun g _ _ k _ => by rw [f.2.2]) hs
theorem twR_g {h h' : xH} {n : Nat} {V : Nat → Int32} (f : cgF h h') (hs : twR h V n) : twR h' V n := by
  unfold twR
  rw [f.1, f.2.2]
  exact hs
theorem c_deepOf2 {h : xH} {n : Nat} {V : Nat → Int32} {p : Nat → Bool} (ht : ∀ k, k < n → h.2.2.2.1 39 0 k = V (52 + k)) (h8 : n ≤ 8) {x : Int32} (hx : x = nI (bs p n)) : f_Told_deepOf 0 x h = some (isum (fun k => V (52 + k)) p n) := by
  have h1 := c_sum8 (f := fun k => h.2.2.2.1 39 0 k) hx (bs_lt8 _ h8) 0 (fun s => f_Told_deepOf_s4 0 x s.1 s.2 h) (fun a k => rfl)
  refine Eq.trans h1 ?_
  rw [isum_ext 8 h8 (fun k hk _ => bs_hi hk), isum_congr (f' := fun k => V (52 + k)) (p' := p) (fun k hk => ⟨bs_in hk, fun _ => ht k hk⟩)]
  simp
theorem c_overOf {h : xH} {n k : Nat} {V : Nat → Int32} (hv : wOk V n) (hs : stR h 25 V n) (hk : k < 8) : f_State_overOf 25 (nI k) h = some (ovV V n k) := by
  have h8 := hv.2.1
  obtain ⟨-, -, s3, -, s5⟩ := hs
  have hB := bs_lt8 (vIn V) h8
  have e8 : isum (fun _ => 1) (fun o => (bs (vIn V) n).testBit o && (uV V o).testBit k) 8 = ovV V n k := by
    rw [isum_ext (n := n) 8 h8 (fun o h1 _ => by rw [bs_hi h1]; rfl)]
    exact isum_congr (fun o ho => ⟨by rw [bs_in ho], fun _ => rfl⟩)
  rw [← e8]
  refine whl_cnt (step := fun s => f_State_overOf_s4 25 (nI k) s.1 s.2 h) 8 (fun o => (isum (fun _ => 1) (fun o => (bs (vIn V) n).testBit o && (uV V o).testBit k) o, nI o)) _ (fun o ho => ?_) ?_
  · show f_State_overOf_s4 25 (nI k) (isum (fun _ => 1) (fun o => (bs (vIn V) n).testBit o && (uV V o).testBit k) o) (nI o) h = some (Sum.inl (isum (fun _ => 1) (fun o => (bs (vIn V) n).testBit o && (uV V o).testBit k) o + (if ((bs (vIn V) n).testBit o && (uV V o).testBit k) then 1 else 0), nI (o + 1)))
    unfold f_State_overOf_s4
    rw [if_neg (show ¬ (8 : Int32) ≤ nI o from nI_ge (b := 8) ho (by decide)), s3, ← nI_1]
    cases hb : (bs (vIn V) n).testBit o with
    | false =>
      rw [if_pos ((c_bit0 hB ho).mpr hb)]
      show some (Sum.inl (_, _)) = some (Sum.inl (_ + 0, _))
      rw [Int32.add_zero]
    | true =>
      have hon : o < n := by
        by_cases q : o < n
        · exact q
        · rw [bs_hi (by omega)] at hb; cases hb
      obtain ⟨u1, u2⟩ := uV_w hv hon
      have eu : h.2.2.2.1 30 25 (nI o).toNatClampNeg = nI (uV V o) := by
        rw [nI_clamp (by omega)]; exact (s5 o hon).2.1.trans u1
      rw [if_neg (by rw [c_bit0 hB ho, hb]; decide), if_pos (xibN ho (by decide)), eu]
      cases hc : (uV V o).testBit k with
      | false =>
        rw [if_pos ((c_bit0 u2 hk).mpr hc)]
        show some (Sum.inl (_, _)) = some (Sum.inl (_ + 0, _))
        rw [Int32.add_zero]
      | true =>
        rw [if_neg (by rw [c_bit0 u2 hk, hc]; decide)]
        rfl
  · show f_State_overOf_s4 25 (nI k) _ (nI 8) h = _
    unfold f_State_overOf_s4
    rw [if_pos (show (8 : Int32) ≤ nI 8 by decide)]
theorem wA_e {B : Nat → Int64} {a5 a6 a7 a8 a9 a10 a11 : Int64} (v : Nat) (h5 : 5 ≤ v) (hv : v < 12) : vp_updL (vp_updL (vp_updL (vp_updL (vp_updL (vp_updL (vp_updL B 5 a5) 6 a6) 7 a7) 8 a8) 9 a9) 10 a10) 11 a11 v = (if v = 5 then a5 else if v = 6 then a6 else if v = 7 then a7 else if v = 8 then a8 else if v = 9 then a9 else if v = 10 then a10 else if v = 11 then a11 else 0) := by
  rcases (show v = 5 ∨ v = 6 ∨ v = 7 ∨ v = 8 ∨ v = 9 ∨ v = 10 ∨ v = 11 by omega) with rfl | rfl | rfl | rfl | rfl | rfl | rfl <;> rfl
theorem wO_e {B : Nat → Int64} {a0 a1 a2 a3 a4 : Int64} (v : Nat) : vp_updL (vp_updL (vp_updL (vp_updL (vp_updL B 0 a0) 1 a1) 2 a2) 3 a3) 4 a4 v = (if v = 0 then a0 else if v = 1 then a1 else if v = 2 then a2 else if v = 3 then a3 else if v = 4 then a4 else B v) := by
  by_cases h : v < 5
  · rcases (show v = 0 ∨ v = 1 ∨ v = 2 ∨ v = 3 ∨ v = 4 by omega) with rfl | rfl | rfl | rfl | rfl <;> rfl
  · rw [uL_n (by omega), uL_n (by omega), uL_n (by omega), uL_n (by omega), uL_n (by omega), if_neg (by omega), if_neg (by omega), if_neg (by omega), if_neg (by omega), if_neg (by omega)]
theorem c_tellAll {h : xH} {n : Nat} {V : Nat → Int32} (hv : wOk V n) (hs : stR h 25 V n) (ht : twR h V n) (h3 : h.2.2.1 10 3 0 = some 0) : ∃ h2, f_Walk_tellAll (nI (bs (vLoose V n) n)) h = some h2 ∧ cgF h h2 ∧ ∀ k v, 5 ≤ v → v < 12 → h2.2.2.2.2 42 0 v = wV V n k v := by
  have h8 := hv.2.1
  have pI := bs_lt8 (vIn V) h8
  have pL := bs_lt8 (vLoose V n) h8
  obtain ⟨W, eW⟩ : ∃ W, W = vp_updL (vp_updL (vp_updL (vp_updL (vp_updL (vp_updL (vp_updL (h.2.2.2.2 42 0) 5 (nI (pc (bs (vIn V) n))).toInt64) 6 (nI (pc (bs (vLoose V n) n))).toInt64) 7 (V 1 - V 10).toInt64) 8 (isum (fun k => V (28 + k)) (vIn V) n + V 2).toInt64) 9 (isum (fun k => V (52 + k)) (vLb V) n).toInt64) 10 (V 10).toInt64) 11 (V 11).toInt64 := ⟨_, rfl⟩
  refine ⟨xsB h 42 0 W, ?_, ⟨rfl, rfl, rfl⟩, fun k v h5 h12 => ?_⟩
  · obtain ⟨s1, s2, s3, s4, s5⟩ := id hs
    obtain ⟨t1, t2, t3⟩ := ht
    have eR : ∀ g, (xsB h 42 0 g).2.2.1 = h.2.2.1 := fun _ => rfl
    have eLo : ∀ g e, f_State_load 25 e (xsB h 42 0 g) = some (e + isum (fun k => V (28 + k)) (vIn V) n) := fun g e => c_load (h := xsB h 42 0 g) hs h8 e
    have eDe : ∀ g, f_Told_deepOf 0 (nI (bs (vLb V) n)) (xsB h 42 0 g) = some (isum (fun k => V (52 + k)) (vLb V) n) := fun g => c_deepOf2 (h := xsB h 42 0 g) t3 h8 rfl
    unfold f_Walk_tellAll f_Walk_tellAll_e
    rw [s3, c_bitCount pI, Option.bind_some]
    simp only [xlet_e, rdB_s, xsB_2, rdBA, rdBI, c_bitCount pL, Option.bind_some, eR, h3, t1, t2, s1, s2, s4, eLo, eDe]
    rw [eW, Int32.add_comm (V 2)]
    simp only [show Int32.toNatClampNeg 5 = 5 from rfl, show Int32.toNatClampNeg 6 = 6 from rfl, show Int32.toNatClampNeg 7 = 7 from rfl, show Int32.toNatClampNeg 8 = 8 from rfl, show Int32.toNatClampNeg 9 = 9 from rfl, show Int32.toNatClampNeg 10 = 10 from rfl, show Int32.toNatClampNeg 11 = 11 from rfl]
  · rw [rdB_s, eW, wA_e v h5 h12]
    unfold wV
    rw [if_neg (show ¬ v = 0 by omega), if_neg (show ¬ v = 1 by omega), if_neg (show ¬ v = 2 by omega), if_neg (show ¬ v = 3 by omega), if_neg (show ¬ v = 4 by omega)]
theorem c_tellOf {h : xH} {n k : Nat} {V : Nat → Int32} (hv : wOk V n) (hs : stR h 25 V n) (ht : twR h V n) (h3 : h.2.2.1 10 3 0 = some 0) (hk : k < n) : ∃ h2, f_Walk_tellOf (nI k) h = some h2 ∧ cgF h h2 ∧ (∀ v, v < 5 → h2.2.2.2.2 42 0 v = wV V n k v) ∧ ∀ v, 5 ≤ v → h2.2.2.2.2 42 0 v = h.2.2.2.2 42 0 v := by
  have h8 := hv.2.1
  have k8 : k < 8 := by omega
  obtain ⟨W, eW⟩ : ∃ W, W = vp_updL (vp_updL (vp_updL (vp_updL (vp_updL (h.2.2.2.2 42 0) 0 (nI k).toInt64) 1 (V (28 + k)).toInt64) 2 (V (44 + k)).toInt64) 3 (V (52 + k)).toInt64) 4 (ovV V n k).toInt64 := ⟨_, rfl⟩
  refine ⟨xsB h 42 0 W, ?_, ⟨rfl, rfl, rfl⟩, fun v h5 => ?_, fun v h5 => ?_⟩
  · obtain ⟨s1, s2, s3, s4, s5⟩ := id hs
    obtain ⟨a1, a2, a3, a4⟩ := s5 k hk
    obtain ⟨t1, t2, t3⟩ := ht
    have eR : ∀ g, (xsB h 42 0 g).2.2.1 = h.2.2.1 := fun _ => rfl
    have eOv : ∀ g, f_State_overOf 25 (nI k) (xsB h 42 0 g) = some (ovV V n k) := fun g => c_overOf (h := xsB h 42 0 g) hv hs k8
    have x8 : xib (nI k) 8 := xibN k8 (by decide)
    have kc : (nI k).toNatClampNeg = k := nI_clamp (by omega)
    unfold f_Walk_tellOf f_Walk_tellOf_e
    simp only [xlet_e, rdB_s, xsB_2, rdBA, rdBI, eR, h3, Option.bind_some, eOv]
    rw [if_pos x8, if_pos x8, if_pos x8, kc, a3, a4, t3 k hk, eW]
    simp only [show Int32.toNatClampNeg 0 = 0 from rfl, show Int32.toNatClampNeg 1 = 1 from rfl, show Int32.toNatClampNeg 2 = 2 from rfl, show Int32.toNatClampNeg 3 = 3 from rfl, show Int32.toNatClampNeg 4 = 4 from rfl]
  · rw [rdB_s, eW, wO_e]
    unfold wV
    rcases (show v = 0 ∨ v = 1 ∨ v = 2 ∨ v = 3 ∨ v = 4 by omega) with rfl | rfl | rfl | rfl | rfl <;> rfl
  · rw [rdB_s, eW, wO_e, if_neg (by omega), if_neg (by omega), if_neg (by omega), if_neg (by omega), if_neg (by omega)]
theorem chF_f {lo : Nat → Bool} {wo : Nat → Int64} {k : Nat} {t : Int64 × Option Nat} (h : lo k = false) : chF lo wo k t = t := if_neg (by rw [h]; decide)
theorem chF_t {lo : Nat → Bool} {wo : Nat → Int64} {k : Nat} {t : Int64 × Option Nat} (h : lo k = true) : chF lo wo k t = if t.1 < wo k then (wo k, some k) else t := if_pos h
/-- what the walk chooses by a rule -/
theorem c_chosenOf {h : xH} {n r : Nat} {V : Nat → Int32} {cs : List Cl} (hv : wOk V n) (hs : stR h 25 V n) (ht : twR h V n) (h3 : h.2.2.1 10 3 0 = some 0) (h4 : h.2.2.1 10 4 0 = some r) (hm : ccR h r 0 0 cs) : ∃ h2, f_Walk_chosenOf (nI (bs (vLoose V n) n)) h = some (oI (chV V n (some r) cs), h2) ∧ cgF h h2 := by
  have h8 := hv.2.1
  have pL := bs_lt8 (vLoose V n) h8
  obtain ⟨g, eg, fg, wg⟩ := c_tellAll hv hs ht h3
  obtain ⟨b, eb⟩ : ∃ b : Nat → Int64 × Option Nat, b = fold (chF (fun k => (bs (vLoose V n) n).testBit k) (woV V n (some r) cs)) (0, none) := ⟨_, rfl⟩
  have eb0 : b 0 = (0, none) := by rw [eb]; rfl
  have ebs : ∀ k, b (k + 1) = chF (fun k => (bs (vLoose V n) n).testBit k) (woV V n (some r) cs) k (b k) := fun k => by rw [eb]; rfl
  have eb8 : (b 8).2 = chV V n (some r) cs := by
    have x1 : fold (chF (fun k => (bs (vLoose V n) n).testBit k) (woV V n (some r) cs)) (0, none) 8 = fold (chF (fun k => (bs (vLoose V n) n).testBit k) (woV V n (some r) cs)) (0, none) n := fold_ext 8 h8 (fun k h1 _ t => chF_f (bs_hi h1))
    have x2 : fold (chF (fun k => (bs (vLoose V n) n).testBit k) (woV V n (some r) cs)) (0, none) n = fold (chF (vLoose V n) (woV V n (some r) cs)) (0, none) n := fold_congr (fun k hk t => by
      have x3 : (bs (vLoose V n) n).testBit k = vLoose V n k := bs_in hk
      cases hc : vLoose V n k with
      | false => rw [chF_f hc, chF_f (x3.trans hc)]
      | true => rw [chF_t hc, chF_t (x3.trans hc)])
    rw [eb, x1, x2]
    rfl
  have key := whl_cntE (step := fun s : Int32 × Int64 × Int32 × xH => f_Walk_chosenOf_s12 (nI (bs (vLoose V n) n)) s.1 s.2.1 s.2.2.1 s.2.2.2) 8 (fun k s => s.1 = oI (b k).2 ∧ s.2.1 = (b k).1 ∧ s.2.2.1 = nI k ∧ cgF h s.2.2.2 ∧ ∀ v, 5 ≤ v → v < 12 → s.2.2.2.2.2.2.2 42 0 v = wV V n 0 v) (fun x => ∃ h2, x = (oI (b 8).2, h2) ∧ cgF h h2) ?_ ?_ (-1, 0, 0, g) ⟨by rw [eb0]; rfl, by rw [eb0], nI_0.symm, fg, fun v h5 hv => wg 0 v h5 hv⟩
  · obtain ⟨x, e, h2, rfl, f⟩ := key
    refine ⟨h2, ?_, f⟩
    show (f_Walk_tellAll (nI (bs (vLoose V n) n)) h).bind _ = _
    rw [eg, Option.bind_some, ← eb8]
    exact e
  · rintro k hk ⟨v1, v2, v4, h'⟩ ⟨e1, e2, e4, f, w⟩
    have e1 : v1 = oI (b k).2 := e1
    have e2 : v2 = (b k).1 := e2
    have e4 : v4 = nI k := e4
    have f : cgF h h' := f
    have w : ∀ v, 5 ≤ v → v < 12 → h'.2.2.2.2 42 0 v = wV V n 0 v := w
    subst e1; subst e2; subst e4
    left
    show ∃ s', f_Walk_chosenOf_s12 (nI (bs (vLoose V n) n)) (oI (b k).2) (b k).1 (nI k) h' = some (Sum.inl s') ∧ s'.1 = oI (b (k + 1)).2 ∧ s'.2.1 = (b (k + 1)).1 ∧ s'.2.2.1 = nI (k + 1) ∧ cgF h s'.2.2.2 ∧ ∀ v, 5 ≤ v → v < 12 → s'.2.2.2.2.2.2.2 42 0 v = wV V n 0 v
    rw [ebs k]
    unfold f_Walk_chosenOf_s12
    rw [if_neg (show ¬ (8 : Int32) ≤ nI k from nI_ge (b := 8) hk (by decide))]
    cases hb : (bs (vLoose V n) n).testBit k with
    | false =>
      rw [if_pos ((c_bit0 pL hk).mpr hb), chF_f hb]
      exact ⟨_, rfl, rfl, rfl, nI_1 k, f, w⟩
    | true =>
      have hkn : k < n := by
        by_cases q : k < n
        · exact q
        · rw [bs_hi (by omega)] at hb; cases hb
      obtain ⟨g1, eg1, fg1, wg1, wg2⟩ := c_tellOf (k := k) hv (stR_g f hs) (twR_g f ht) (by rw [f.2.1]; exact h3) hkn
      have f1 := cgF_trans f fg1
      have ww : ∀ v, v < 12 → g1.2.2.2.2 42 0 v = wV V n k v := by
        intro v hv
        by_cases h5 : v < 5
        · exact wg1 v h5
        · rw [wg2 v (by omega), w v (by omega) hv]
          unfold wV
          rw [if_neg (show ¬ v = 0 by omega), if_neg (show ¬ v = 1 by omega), if_neg (show ¬ v = 2 by omega), if_neg (show ¬ v = 3 by omega), if_neg (show ¬ v = 4 by omega), if_neg (show ¬ v = 0 by omega), if_neg (show ¬ v = 1 by omega), if_neg (show ¬ v = 2 by omega), if_neg (show ¬ v = 3 by omega), if_neg (show ¬ v = 4 by omega)]
      obtain ⟨g2, eg2, fg2⟩ := c_worth (h := g1) (w := wV V n k) (r := r) (cs := cs) ww (ccR_of (h := h) (by rw [f1.1]) (by rw [f1.2.2]) hm)
      have f2 := cgF_trans f1 (cgF_of fg2)
      have w2 : ∀ v, 5 ≤ v → v < 12 → g2.2.2.2.2 42 0 v = wV V n 0 v := fun v h5 hv => by
        rw [fg2.2.2.2.2 42 0 (by decide), wg2 v h5, w v h5 hv]
      rw [if_neg (by rw [c_bit0 pL hk, hb]; decide), eg1, Option.bind_some, f1.2.1, h4, Option.bind_some, eg2, Option.bind_some, chF_t hb]
      show ∃ s', (if lg_cmp (wrt (wV V n k) cs) (b k).1 ≤ 0 then _ else _) = some (Sum.inl s') ∧ _
      by_cases c : (b k).1 < wrt (wV V n k) cs
      · have c' : (b k).1 < woV V n (some r) cs k := c
        rw [if_neg (fun z => absurd ((lg_cmp_le _ _).mp z) (Int64.not_le.mpr c)), if_pos c']
        exact ⟨_, rfl, rfl, rfl, nI_1 k, f2, w2⟩
      · have c' : ¬ (b k).1 < woV V n (some r) cs k := c
        rw [if_pos ((lg_cmp_le _ _).mpr (Int64.not_lt.mp c)), if_neg c']
        exact ⟨_, rfl, rfl, rfl, nI_1 k, f2, w2⟩
  · rintro ⟨v1, v2, v4, h'⟩ ⟨e1, e2, e4, f, -⟩
    have e1 : v1 = oI (b 8).2 := e1
    have e4 : v4 = nI 8 := e4
    subst e1; subst e4
    refine ⟨_, ?_, h', rfl, f⟩
    show f_Walk_chosenOf_s12 (nI (bs (vLoose V n) n)) (oI (b 8).2) v2 (nI 8) h' = _
    unfold f_Walk_chosenOf_s12
    rw [if_pos (show (8 : Int32) ≤ nI 8 by decide)]
