/-! PURE: what is asked of steps: both sides walk over vectors -/
def kpA (S A : Nat → Int32) (k : Nat) : Nat → Int32 := fun i => if i < k then S (10 + i) else A i
theorem kpA_s {S A : Nat → Int32} {k : Nat} : upd (kpA S A k) k (S (10 + k)) = kpA S A (k + 1) := by
  funext i
  by_cases hi : i = k
  · subst hi
    rw [pk_us]
    exact (if_pos (by omega)).symm
  · rw [pk_un hi]
    unfold kpA
    by_cases h1 : i < k
    · rw [if_pos h1, if_pos (by omega)]
    · rw [if_neg h1, if_neg (by omega)]
theorem m_keeps {h : xH} : f_M_keeps h = some (xsA h 58 0 (kpA (mS h) (h.2.2.2.1 58 0) 34)) := by
  have e0 : ((0 : Int32), h) = (fun k => (nI k, xsA h 58 0 (kpA (mS h) (h.2.2.2.1 58 0) k))) 0 := by
    show ((0 : Int32), h) = (nI 0, xsA h 58 0 (h.2.2.2.1 58 0))
    rw [nI_0]
    exact congrArg (Prod.mk (0 : Int32)) (xsA_id (h := h) (c := 58) (i := 0)).symm
  show whl (fun s => f_M_keeps_s2 s.1 s.2) ((0 : Int32), h) = _
  rw [e0]
  refine whl_cnt 34 (fun k => (nI k, xsA h 58 0 (kpA (mS h) (h.2.2.2.1 58 0) k))) _ (fun k hk => ?_) ?_
  · show f_M_keeps_s2 (nI k) (xsA h 58 0 (kpA (mS h) (h.2.2.2.1 58 0) k)) = some (Sum.inl (nI (k + 1), xsA h 58 0 (kpA (mS h) (h.2.2.2.1 58 0) (k + 1))))
    unfold f_M_keeps_s2
    rw [if_neg (show ¬ (34 : Int32) ≤ nI k from nI_ge (b := 34) hk (by decide)), if_pos (xibA (c := 10) (a := 10) rfl (by omega) (by decide)), if_pos (xibN hk (by decide)), ixA (c := 10) (a := 10) rfl (by omega), nI_clamp (by omega), xsA_2, rdA_s, rdA_n (by decide), xlet_e, xlet_e, nI_1]
    show some (Sum.inl (nI (k + 1), xsA h 58 0 (upd (kpA (mS h) (h.2.2.2.1 58 0) k) k (mS h (10 + k))))) = _
    rw [kpA_s]
  · show f_M_keeps_s2 (nI 34) _ = _
    unfold f_M_keeps_s2
    rw [if_pos (show (34 : Int32) ≤ nI 34 by decide)]
def lyA (K S : Nat → Int32) (k : Nat) : Nat → Int32 := fun t => if 10 ≤ t ∧ t < 10 + k then K (t - 10) else S t
theorem lyA_s {K S : Nat → Int32} {k : Nat} : upd (lyA K S k) (10 + k) (K k) = lyA K S (k + 1) := by
  funext i
  by_cases hi : i = 10 + k
  · subst hi
    rw [pk_us]
    unfold lyA
    rw [if_pos (by omega), show 10 + k - 10 = k by omega]
  · rw [pk_un hi]
    unfold lyA
    by_cases h1 : 10 ≤ i ∧ i < 10 + k
    · rw [if_pos h1, if_pos (by omega)]
    · rw [if_neg h1, if_neg (by omega)]
theorem m_laysBack {h : xH} {V : Nat → Int32} (hk : ∀ j, j < 34 → h.2.2.2.1 58 0 j = V (10 + j)) (ho : ∀ t, ¬ (10 ≤ t ∧ t < 44) → mS h t = V t) : f_M_laysBack h = some (xsA h 56 0 V) := by
  have eV : lyA (h.2.2.2.1 58 0) (mS h) 34 = V := by
    funext t
    unfold lyA
    by_cases c : 10 ≤ t ∧ t < 10 + 34
    · rw [if_pos c, hk (t - 10) (by omega), show 10 + (t - 10) = t by omega]
    · rw [if_neg c]; exact ho t (by omega)
  rw [← eV]
  have e0 : ((0 : Int32), h) = (fun k => (nI k, xsA h 56 0 (lyA (h.2.2.2.1 58 0) (mS h) k))) 0 := by
    show ((0 : Int32), h) = (nI 0, xsA h 56 0 (lyA (h.2.2.2.1 58 0) (mS h) 0))
    have : lyA (h.2.2.2.1 58 0) (mS h) 0 = mS h := funext fun t => if_neg (by omega)
    rw [nI_0, this]
    exact congrArg (Prod.mk (0 : Int32)) (xsA_id (h := h) (c := 56) (i := 0)).symm
  show whl (fun s => f_M_laysBack_s2 s.1 s.2) ((0 : Int32), h) = _
  rw [e0]
  refine whl_cnt 34 (fun k => (nI k, xsA h 56 0 (lyA (h.2.2.2.1 58 0) (mS h) k))) _ (fun k hk => ?_) ?_
  · show f_M_laysBack_s2 (nI k) (xsA h 56 0 (lyA (h.2.2.2.1 58 0) (mS h) k)) = some (Sum.inl (nI (k + 1), xsA h 56 0 (lyA (h.2.2.2.1 58 0) (mS h) (k + 1))))
    unfold f_M_laysBack_s2
    rw [if_neg (show ¬ (34 : Int32) ≤ nI k from nI_ge (b := 34) hk (by decide)), if_pos (xibN hk (by decide)), if_pos (xibA (c := 10) (a := 10) rfl (by omega) (by decide)), ixA (c := 10) (a := 10) rfl (by omega), nI_clamp (by omega), xsA_2, rdA_s, rdA_n (by decide), lyA_s, xlet_e, xlet_e, nI_1]
  · show f_M_laysBack_s2 (nI 34) _ = _
    unfold f_M_laysBack_s2
    rw [if_pos (show (34 : Int32) ≤ nI 34 by decide)]
/-! walks over vectors -/
def wlk (V : Nat → Int32) (n : Nat) (rl : Option Nat) (cs : List Cl) : Nat → Nat → Int32
  | 0 => V
  | i + 1 => stV (wlk V n rl cs i) (chV (wlk V n rl cs i) n rl cs)
theorem chV_lt {V : Nat → Int32} {n : Nat} {rl : Option Nat} {cs : List Cl} : ∀ k, chV V n rl cs = some k → k < n := fun k hk => (ch_lt n k hk).1
theorem stV_o {V : Nat → Int32} {c : Option Nat} (hc : ∀ k, c = some k → k < 8) {t : Nat} (ht : ¬ (10 ≤ t ∧ t < 44)) : stV V c t = V t := by
  cases c with
  | none =>
    show upd (upd V 10 (gbT V 1)) 11 (V 11 + 1) t = V t
    rw [pk_un (by omega), pk_un (by omega)]
  | some k =>
    have := hc k rfl
    show upd (liV V k) 11 (V 11 + 1) t = V t
    rw [pk_un (by omega), liV_o (by omega) (by omega) (by omega)]
theorem wlk_ok {V : Nat → Int32} {n : Nat} {rl : Option Nat} {cs : List Cl} (hv : wOk V n) : ∀ i, wOk (wlk V n rl cs i) n
  | 0 => hv
  | i + 1 => wOk_st (wlk_ok hv i) chV_lt
theorem wlk_o {V : Nat → Int32} {n : Nat} {rl : Option Nat} {cs : List Cl} (h8 : n ≤ 8) {t : Nat} (ht : ¬ (10 ≤ t ∧ t < 44)) : ∀ i, wlk V n rl cs i t = V t
  | 0 => rfl
  | i + 1 => (stV_o (fun k hk => by have := chV_lt k hk; omega) ht).trans (wlk_o h8 ht i)
/-- the reference on its way: W is said, V0 is kept -/
def mwR (h0 h' : xH) (V0 W : Nat → Int32) : Prop := (∀ c k i, ¬ (c = 12 ∧ k = 18) → h'.1 c k i = h0.1 c k i) ∧ (∀ f i, ¬ (f = 56 ∧ i = 0) → ¬ (f = 58 ∧ i = 0) → h'.2.2.2.1 f i = h0.2.2.2.1 f i) ∧ (∀ j, j < 34 → h'.2.2.2.1 58 0 j = V0 (10 + j)) ∧ mS h' = W
theorem m_keepW {h : xH} : ∃ h', f_M_keeps h = some h' ∧ mwR h h' (mS h) (mS h) := by
  refine ⟨_, m_keeps, fun _ _ _ _ => rfl, fun f i _ q => rdA_n q, fun j hj => ?_, ?_⟩
  · rw [rdA_s]; exact if_pos hj
  · show (xsA h 58 0 _).2.2.2.1 56 0 = _
    rw [rdA_n (by decide)]
theorem m_passW {h0 h' : xH} {V0 W : Nat → Int32} {n : Nat} {rl : Option Nat} {cs : List Cl} (hw : mwR h0 h' V0 W) (hv : wOk W n) (hf : h0.1 12 21 0 = oI rl) (hr : ∀ r, rl = some r → r < 6 ∧ mcR h0 r 0 0 cs) : ∃ h2, f_M_passes h' = some (oI (chV W n rl cs), h2) ∧ mwR h0 h2 V0 (stV W (chV W n rl cs)) := by
  obtain ⟨w1, w2, w3, w4⟩ := hw
  subst w4
  obtain ⟨h2, e2, s2, f2⟩ := m_passes (h := h') (cs := cs) hv (by rw [w1 12 21 0 (by decide)]; exact hf) (fun r hr' => ⟨(hr r hr').1, mcR_of2 (w2 48 0 (by decide) (by decide)) (w2 50 0 (by decide) (by decide)) (w2 51 0 (by decide) (by decide)) (hr r hr').2⟩)
  exact ⟨h2, e2, fun c k i q => (f2.1 c k i q).trans (w1 c k i q), fun f i p q => (f2.2 f i p).trans (w2 f i p q), fun j hj => by rw [f2.2 58 0 (by decide)]; exact w3 j hj, s2⟩
theorem m_backW {h0 h' : xH} {W : Nat → Int32} (hw : mwR h0 h' (mS h0) W) (ho : ∀ t, ¬ (10 ≤ t ∧ t < 44) → W t = mS h0 t) : ∃ h2, f_M_laysBack h' = some h2 ∧ sameJ h0 h2 ∧ mwR h0 h2 (mS h0) (mS h0) := by
  obtain ⟨w1, w2, w3, w4⟩ := id hw
  refine ⟨_, m_laysBack (V := mS h0) w3 (fun t ht => by rw [w4]; exact ho t ht), ⟨fun c k i q => w1 c k i (by unfold jF at q; omega), fun f i q => ?_⟩, w1, fun f i p q => by rw [rdA_n p]; exact w2 f i p q, fun j hj => by rw [rdA_n (by decide)]; exact w3 j hj, rdA_s⟩
  by_cases e : f = 56 ∧ i = 0
  · obtain ⟨rfl, rfl⟩ := e
    rw [rdA_s]
  · rw [rdA_n e]
    exact w2 f i e (by unfold jG at q; omega)
/-! what is asked: the class begins -/
theorem c_ruleNumbered {h : xH} {R : Nat} {rl : Option Nat} (hR : R ≤ 6) (r1 : h.1 11 5 0 = nI R) (hr : ∀ r, rl = some r → r < R) : f_B_ruleNumbered (oI rl) h = some rl := by
  cases rl with
  | none => rfl
  | some r =>
    have rR := hr r rfl
    show (if nI r < 0 then some none else if h.1 11 5 0 ≤ nI r then some none else if (6 : Int32) ≤ nI r then some none else if xib (nI r) 6 then some (some (0 + (nI r).toNatClampNeg)) else none) = some (some r)
    rw [if_neg (nI_pos (by omega)), r1, if_neg (nI_ge rR (by omega)), if_neg (show ¬ (6 : Int32) ≤ nI r from nI_ge (b := 6) (by omega) (by decide)), if_pos (xibN (show r < 6 by omega) (by decide)), nI_clamp (by omega), Nat.zero_add]
theorem c_start {h : xH} {n m : Nat} {rl : Option Nat} {cs : List Cl} {V : Nat → Int32} (hv : wOk V n) (hto : toR h 0 V n m) (hst : stR h 0 V n) (hc : clR h rl cs) : ∃ h', f_Walk_start 0 0 rl h = some h' ∧ wkA h' V n rl cs ∧ wkF h h' := by
  obtain ⟨g, eg⟩ : ∃ g, g = xsI (xsR (xsR h 10 3 0 (some 0)) 10 4 0 rl) 10 1 0 0 := ⟨_, rfl⟩
  obtain ⟨g1, e1, c1, c2, c3, c4, c5, c6, c7⟩ := c_copyFrom (h := g) (a := 25) (b := 0) (by decide)
  have gI : ∀ c k i, ¬ c = 10 → g.1 c k i = h.1 c k i := fun c k i q => by rw [eg, rdI (by omega)]; rfl
  have gA : g.2.2.2.1 = h.2.2.2.1 := by rw [eg]; rfl
  have gR3 : g.2.2.1 10 3 0 = some 0 := by
    rw [eg]
    show xw (xw h.2.2.1 10 3 (xu (h.2.2.1 10 3) 0 (some 0))) 10 4 (xu ((xsR h 10 3 0 (some 0)).2.2.1 10 4) 0 rl) 10 3 0 = some 0
    rw [xw_n (by decide), xw_s]
    rfl
  have gR4 : g.2.2.1 10 4 0 = rl := by
    rw [eg]
    show xw (xw h.2.2.1 10 3 (xu (h.2.2.1 10 3) 0 (some 0))) 10 4 (xu ((xsR h 10 3 0 (some 0)).2.2.1 10 4) 0 rl) 10 4 0 = rl
    rw [xw_s]
    rfl
  have h8 := hv.2.1
  refine ⟨g1, ?_, ⟨⟨0, ⟨?_, ⟨?_, ?_, fun k hk => ?_⟩, by rw [c5]; exact gR3, by rw [c5]; exact gR4, ?_⟩, Or.inl rfl⟩, hv, clR_of (h := h) (fun k r => by rw [c2 2 k r (by omega), gI 2 k r (by decide)]) (fun r => by rw [c4 18 r (by omega), gA]) hc⟩, fun c k i p q => by rw [c2 c k i q, gI c k i p], fun f i q => by rw [c4 f i q, gA]⟩
  · show (f_State_copyFrom 25 0 (xsI (xsR (xsR h 10 3 0 (some 0)) 10 4 0 rl) 10 1 0 0)).bind (fun h6 => some h6) = _
    rw [← eg, e1]
    rfl
  · exact stR_of (fun k hk => by rw [c1 k hk, gI 6 k 0 (by decide)]) (fun f a b k hk => by rw [c3 f a b k (by omega), gA]) hst
  · rw [c2 8 1 0 (by decide), gI 8 1 0 (by decide)]; exact hto.2.1
  · rw [c2 8 2 0 (by decide), gI 8 2 0 (by decide)]; exact hto.2.2.1
  · rw [c4 39 0 (by omega), gA]; exact (hto.2.2.2.2.2.1 k hk).2.2.1
  · rw [c2 10 1 0 (by decide), eg, rdI_s]
/-- all that a pair which asks needs -/
theorem ask_pre {h : xH} (hj : jII Qr h) : ∃ n m c rl cs, scR h 0 (mS h) n m c ∧ h.1 12 21 0 = oI rl ∧ h.1 4 2 0 = oI rl ∧ clR h rl cs ∧ (∀ r, rl = some r → r < 6 ∧ mcR h r 0 0 cs) ∧ (∀ h1, h1.1 11 5 0 = h.1 11 5 0 → f_B_ruleNumbered (oI rl) h1 = some rl) := by
  obtain ⟨R, hR, r1, r2, ⟨ht, hf, him, n, m, c, hsc, hpa⟩, hq⟩ := hj
  obtain ⟨f1, f2, f3, f4⟩ := hf
  rcases f3 with e | ⟨r, hr, e⟩
  · exact ⟨n, m, c, none, [], hsc, e, f1.trans e, (fun r hr => by cases hr), (fun r hr => by cases hr), fun h1 e1 => c_ruleNumbered hR (e1.trans r1) (fun r hr => by cases hr)⟩
  · obtain ⟨cs, a1, a2, a3, a4⟩ := hq r hr
    refine ⟨n, m, c, some r, cs, hsc, e, f1.trans e, fun s hs => ?_, fun s hs => ?_, fun h1 e1 => c_ruleNumbered hR (e1.trans r1) (fun s hs => by cases hs; exact hr)⟩
    · cases hs; exact ⟨by omega, a2, a4⟩
    · cases hs; exact ⟨by omega, a1⟩
theorem ask_start {h : xH} {n m c : Nat} {rl : Option Nat} {cs : List Cl} (hsc : scR h 0 (mS h) n m c) (hf : h.1 4 2 0 = oI rl) (hc : clR h rl cs) (hn : ∀ h1, h1.1 11 5 0 = h.1 11 5 0 → f_B_ruleNumbered (oI rl) h1 = some rl) : ∃ h', f_B_startNow h = some h' ∧ wkA h' (mS h) n rl cs ∧ wkF h h' := by
  obtain ⟨hv, hto, hst, -, -⟩ := hsc
  obtain ⟨h', e, w, f⟩ := c_start (wOk_v hv) hto hst hc
  refine ⟨h', ?_, w, f⟩
  show (f_B_ruleNumbered (h.1 4 2 0) h).bind (fun r1 => (f_Walk_start 0 0 r1 h).bind (fun h5 => some h5)) = _
  rw [hf, hn h rfl, Option.bind_some, e]
  rfl
/-- behind the class's walk the reference finds all as it was -/
theorem ask_mid {h h1 : xH} {rl : Option Nat} {cs : List Cl} (f : wkF h h1) (hf : h.1 12 21 0 = oI rl) (hr : ∀ r, rl = some r → r < 6 ∧ mcR h r 0 0 cs) : mS h1 = mS h ∧ h1.1 12 21 0 = oI rl ∧ (∀ r, rl = some r → r < 6 ∧ mcR h1 r 0 0 cs) := by
  refine ⟨f.2 56 0 (by omega), by rw [f.1 12 21 0 (by decide) (by decide)]; exact hf, fun r hr' => ⟨(hr r hr').1, mcR_of2 (f.2 48 0 (by omega)) (f.2 50 0 (by omega)) (f.2 51 0 (by omega)) (hr r hr').2⟩⟩
