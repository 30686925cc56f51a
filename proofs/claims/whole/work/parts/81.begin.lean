/-! PURE: all as the text told it; notes -/
def bgK (S : Nat → Int32) (k : Nat) : Nat → Int32 := fun t => if t = 10 ∨ t = 11 then 0 else if 12 ≤ t ∧ t < 12 + k then 0 else if 20 ≤ t ∧ t < 20 + k then -1 else if 28 ≤ t ∧ t < 28 + k then S (t + 36) else if 36 ≤ t ∧ t < 36 + k then S (t + 36) else S t
def bgV (S : Nat → Int32) : Nat → Int32 := bgK S 8
theorem bgK_0 {S : Nat → Int32} : upd (upd S 10 0) 11 0 = bgK S 0 := by
  funext t
  unfold bgK
  by_cases a : t = 11
  · subst a
    rw [pk_us, if_pos (by omega)]
  · rw [pk_un a]
    by_cases b : t = 10
    · subst b
      rw [pk_us, if_pos (by omega)]
    · rw [pk_un b, if_neg (by omega), if_neg (by omega), if_neg (by omega), if_neg (by omega), if_neg (by omega)]
theorem bgK_s {S : Nat → Int32} {k : Nat} (hk : k < 8) : upd (upd (upd (upd (bgK S k) (12 + k) 0) (20 + k) (-1)) (28 + k) (S (64 + k))) (36 + k) (S (72 + k)) = bgK S (k + 1) := by
  funext t
  by_cases a : t = 36 + k
  · subst a
    unfold bgK
    rw [pk_us, if_neg (by omega), if_neg (by omega), if_neg (by omega), if_neg (by omega), if_pos (by omega)]
    exact congrArg S (by omega)
  rw [pk_un a]
  by_cases b : t = 28 + k
  · subst b
    unfold bgK
    rw [pk_us, if_neg (by omega), if_neg (by omega), if_neg (by omega), if_pos (by omega)]
    exact congrArg S (by omega)
  rw [pk_un b]
  by_cases c : t = 20 + k
  · subst c
    unfold bgK
    rw [pk_us, if_neg (by omega), if_neg (by omega), if_pos (by omega)]
  rw [pk_un c]
  by_cases d : t = 12 + k
  · subst d
    unfold bgK
    rw [pk_us, if_neg (by omega), if_pos (by omega)]
  rw [pk_un d]
  unfold bgK
  have e1 : (12 ≤ t ∧ t < 12 + k) ↔ (12 ≤ t ∧ t < 12 + (k + 1)) := by omega
  have e2 : (20 ≤ t ∧ t < 20 + k) ↔ (20 ≤ t ∧ t < 20 + (k + 1)) := by omega
  have e3 : (28 ≤ t ∧ t < 28 + k) ↔ (28 ≤ t ∧ t < 28 + (k + 1)) := by omega
  have e4 : (36 ≤ t ∧ t < 36 + k) ↔ (36 ≤ t ∧ t < 36 + (k + 1)) := by omega
  simp only [e1, e2, e3, e4]
theorem bgK_r {S : Nat → Int32} {k j : Nat} (hj : 44 ≤ j) (hk : k ≤ 8) : bgK S k j = S j := by
  unfold bgK
  rw [if_neg (by omega), if_neg (by omega), if_neg (by omega), if_neg (by omega), if_neg (by omega)]
theorem bgV_lo {S : Nat → Int32} {t : Nat} (h : t < 10 ∨ 44 ≤ t) : bgV S t = S t := by
  unfold bgV bgK
  rw [if_neg (by omega), if_neg (by omega), if_neg (by omega), if_neg (by omega), if_neg (by omega)]
theorem bgV_10 {S : Nat → Int32} : bgV S 10 = 0 := rfl
theorem bgV_11 {S : Nat → Int32} : bgV S 11 = 0 := rfl
theorem bgV_12 {S : Nat → Int32} {k : Nat} (hk : k < 8) : bgV S (12 + k) = 0 := by
  unfold bgV bgK
  rw [if_neg (by omega), if_pos (by omega)]
theorem bgV_20 {S : Nat → Int32} {k : Nat} (hk : k < 8) : bgV S (20 + k) = -1 := by
  unfold bgV bgK
  rw [if_neg (by omega), if_neg (by omega), if_pos (by omega)]
theorem bgV_28 {S : Nat → Int32} {k : Nat} (hk : k < 8) : bgV S (28 + k) = S (64 + k) := by
  unfold bgV bgK
  rw [if_neg (by omega), if_neg (by omega), if_neg (by omega), if_pos (by omega)]
  exact congrArg S (by omega)
theorem bgV_36 {S : Nat → Int32} {k : Nat} (hk : k < 8) : bgV S (36 + k) = S (72 + k) := by
  unfold bgV bgK
  rw [if_neg (by omega), if_neg (by omega), if_neg (by omega), if_neg (by omega), if_pos (by omega)]
  exact congrArg S (by omega)
theorem m_begins {h : xH} : f_M_begins h = some (xsA h 56 0 (bgV (mS h))) := by
  have e0 : f_M_begins h = f_M_begins_l18 0 (xsA h 56 0 (bgK (mS h) 0)) := by
    show f_M_begins_l18 0 (xsA (xsA h 56 0 (upd (mS h) 10 0)) 56 0 (upd ((xsA h 56 0 (upd (mS h) 10 0)).2.2.2.1 56 0) 11 0)) = _
    rw [rdA_s, xsA_2, bgK_0]
  rw [e0]
  refine whl_cnt (step := fun s : Int32 × xH => f_M_begins_s18 s.1 s.2) 8 (fun k => (nI k, xsA h 56 0 (bgK (mS h) k))) _ (fun k hk => ?_) ?_
  · show f_M_begins_s18 (nI k) (xsA h 56 0 (bgK (mS h) k)) = some (Sum.inl (nI (k + 1), xsA h 56 0 (bgK (mS h) (k + 1))))
    unfold f_M_begins_s18
    rw [if_neg (show ¬ (8 : Int32) ≤ nI k from nI_ge (b := 8) hk (by decide)), if_pos (xibA (c := 12) (a := 12) rfl (by omega) (by decide)), ixA (c := 12) (a := 12) rfl (by omega), xlet_e, rdA_s, xsA_2]
    rw [if_pos (xibA (c := 20) (a := 20) rfl (by omega) (by decide)), ixA (c := 20) (a := 20) rfl (by omega), xlet_e, rdA_s, xsA_2]
    rw [if_pos (xibA (c := 64) (a := 64) rfl (by omega) (by decide)), if_pos (xibA (c := 28) (a := 28) rfl (by omega) (by decide)), ixA (c := 28) (a := 28) rfl (by omega), ixA (c := 64) (a := 64) rfl (by omega), xlet_e, rdA_s, xsA_2]
    rw [if_pos (xibA (c := 72) (a := 72) rfl (by omega) (by decide)), if_pos (xibA (c := 36) (a := 36) rfl (by omega) (by decide)), ixA (c := 36) (a := 36) rfl (by omega), ixA (c := 72) (a := 72) rfl (by omega), xlet_e, rdA_s, xsA_2, xlet_e, nI_1]
    rw [pk_un (f := upd (bgK (mS h) k) (12 + k) 0) (j := 64 + k) (by omega), pk_un (f := bgK (mS h) k) (j := 64 + k) (by omega), bgK_r (by omega) (by omega)]
    rw [pk_un (j := 72 + k) (k := 28 + k) (by omega), pk_un (j := 72 + k) (k := 20 + k) (by omega), pk_un (j := 72 + k) (k := 12 + k) (by omega), bgK_r (by omega) (by omega), bgK_s hk]
  · show f_M_begins_s18 (nI 8) (xsA h 56 0 (bgK (mS h) 8)) = _
    unfold f_M_begins_s18
    rw [if_pos (by decide)]
    rfl
theorem bg_in : ∀ n, n ≤ 8 → ((1 : Int32) <<< (nI n &&& 31)) - 1 = nI (bs (fun _ => true) n) := by decide +kernel
theorem bg_lb : ∀ n, n ≤ 8 → (0 : Int32) = nI (bs (fun _ => false) n) := by decide +kernel
def naA (A : Nat → Int32) (k : Nat) : Nat → Int32 := fun t => if t < k then -1 else A t
theorem naA_s {A : Nat → Int32} {k : Nat} : upd (naA A k) k (-1) = naA A (k + 1) := by
  funext t
  unfold naA
  by_cases a : t = k
  · subst a; rw [pk_us, if_pos (by omega)]
  · rw [pk_un a]
    by_cases b : t < k
    · rw [if_pos b, if_pos (by omega)]
    · rw [if_neg b, if_neg (by omega)]
/-- State i begins as Told i1 says -/
def bgF (h h1 : xH) (i : Nat) : Prop := (∀ c k i', ¬ (c = 6 ∧ i' = i) → h1.1 c k i' = h.1 c k i') ∧ (∀ f i', ¬ (29 ≤ f ∧ f ≤ 32 ∧ i' = i) → h1.2.2.2.1 f i' = h.2.2.2.1 f i') ∧ h1.2.2.1 = h.2.2.1
theorem c_begin {h : xH} {i i1 n m : Nat} {V : Nat → Int32} (ht : toR h i1 V n m) (h8 : n ≤ 8) (h3 : V 3 = nI n) : ∃ h1, f_State_begin i i1 h = some h1 ∧ stR h1 i (bgV V) n ∧ bgF h h1 i := by
  obtain ⟨g, eg⟩ : ∃ g, g = xsI (xsI (xsI (xsI h 6 0 i 0) 6 1 i 0) 6 2 i (((1 : Int32) <<< (nI n &&& 31)) - 1)) 6 3 i 0 := ⟨_, rfl⟩
  have gI : ∀ c k i', ¬ (c = 6 ∧ i' = i) → g.1 c k i' = h.1 c k i' := fun c k i' q => by rw [eg, rdI_n q, rdI_n q, rdI_n q, rdI_n q]
  have gA : g.2 = h.2 := by rw [eg]; rfl
  have e0 : f_State_begin i i1 h = f_State_begin_l29 i i1 0 g := by
    show f_State_begin_l29 i i1 0 (xsI (xsI (xsI (xsI h 6 0 i 0) 6 1 i 0) 6 2 i (((1 : Int32) <<< ((xsI (xsI h 6 0 i 0) 6 1 i 0).1 8 3 i1 &&& 31)) - 1)) 6 3 i 0) = _
    rw [rdI (by decide), rdI (by decide), ht.2.2.2.1, h3, ← eg]
  have c8 : ¬ (0 : Int32) < 0 ∧ ¬ (0 : Int32) < 0 ∧ ¬ (8 : Int32) < 0 ∧ ((0 : Int32)).toNatClampNeg + ((8 : Int32)).toNatClampNeg ≤ 8 ∧ ((0 : Int32)).toNatClampNeg + ((8 : Int32)).toNatClampNeg ≤ 8 := by decide +kernel
  obtain ⟨g2, eg2⟩ : ∃ g2, g2 = xsA g 29 i (naA (g.2.2.2.1 29 i) 8) := ⟨_, rfl⟩
  obtain ⟨g3, eg3⟩ : ∃ g3, g3 = xsA g2 30 i (va_cpy (g2.2.2.2.1 40 i1) (g2.2.2.2.1 30 i) ((0 : Int32)).toNatClampNeg ((0 : Int32)).toNatClampNeg ((8 : Int32)).toNatClampNeg) := ⟨_, rfl⟩
  obtain ⟨g4, eg4⟩ : ∃ g4, g4 = xsA g3 31 i (va_cpy (g3.2.2.2.1 37 i1) (g3.2.2.2.1 31 i) ((0 : Int32)).toNatClampNeg ((0 : Int32)).toNatClampNeg ((8 : Int32)).toNatClampNeg) := ⟨_, rfl⟩
  obtain ⟨g5, eg5⟩ : ∃ g5, g5 = xsA g4 32 i (va_cpy (g4.2.2.2.1 38 i1) (g4.2.2.2.1 32 i) ((0 : Int32)).toNatClampNeg ((0 : Int32)).toNatClampNeg ((8 : Int32)).toNatClampNeg) := ⟨_, rfl⟩
  have run : f_State_begin i i1 h = some g5 := by
    rw [e0]
    have := whl_cnt (step := fun s : Int32 × xH => f_State_begin_s29 i i1 s.1 s.2) 8 (fun k => (nI k, xsA g 29 i (naA (g.2.2.2.1 29 i) k))) g5 (fun k hk => ?_) ?_
    · rw [show naA (g.2.2.2.1 29 i) 0 = g.2.2.2.1 29 i from rfl, xsA_id] at this
      exact this
    · show f_State_begin_s29 i i1 (nI k) (xsA g 29 i (naA (g.2.2.2.1 29 i) k)) = _
      unfold f_State_begin_s29
      rw [if_neg (show ¬ (8 : Int32) ≤ nI k from nI_ge (b := 8) hk (by decide)), if_pos (xibN hk (by decide)), nI_clamp (by omega), xlet_e, rdA_s, xsA_2, xlet_e, nI_1, naA_s]
    · show f_State_begin_s29 i i1 (nI 8) (xsA g 29 i (naA (g.2.2.2.1 29 i) 8)) = _
      unfold f_State_begin_s29 f_State_begin_b48
      rw [if_pos (by decide), ← eg2, if_pos c8, xlet_e, ← eg3, if_pos c8, xlet_e, ← eg4, if_pos c8, xlet_e, ← eg5]
      rfl
  have I5 : g5.1 = g.1 := by rw [eg5, eg4, eg3, eg2]; rfl
  have cp : ∀ (f u : Nat → Int32) (k : Nat), k < 8 → va_cpy f u ((0 : Int32)).toNatClampNeg ((0 : Int32)).toNatClampNeg ((8 : Int32)).toNatClampNeg k = f k := by
    intro f u k hk
    show va_cpy f u 0 0 8 k = f k
    rw [pk_cpy_in (by omega) (by omega)]
    exact congrArg f (by omega)
  have gA2 : g.2.2.2.1 = h.2.2.2.1 := by rw [gA]
  refine ⟨g5, run, ⟨?_, ?_, ?_, ?_, fun k hk => ?_⟩, fun c k i' q => by rw [I5]; exact gI c k i' q, fun f i' q => ?_, by rw [eg5, eg4, eg3, eg2]; show g.2.2.1 = _; rw [gA]⟩
  · rw [I5, eg, rdI (by decide), rdI (by decide), rdI (by decide), rdI_s]; rfl
  · rw [I5, eg, rdI (by decide), rdI (by decide), rdI_s]; rfl
  · rw [I5, eg, rdI (by decide), rdI_s, bg_in n h8]
    exact congrArg nI (bs_congr (fun k hk => (decide_eq_true (bgV_12 (by omega))).symm))
  · rw [I5, eg, rdI_s, bg_lb n h8]
    exact congrArg nI (bs_congr (fun k hk => (decide_eq_false (by rw [bgV_12 (by omega)]; decide)).symm))
  · have ek := ht.2.2.2.2.2.1 k hk
    refine ⟨?_, ?_, ?_, ?_⟩
    · rw [eg5, rdA_n (by omega), eg4, rdA_n (by omega), eg3, rdA_n (by omega), eg2, rdA_s, bgV_20 (by omega)]
      exact if_pos (by omega)
    · rw [eg5, rdA_n (by omega), eg4, rdA_n (by omega), eg3, rdA_s, cp _ _ k (by omega), eg2, rdA_n (by omega), gA2, ek.2.2.2, bgV_36 (by omega)]
    · rw [eg5, rdA_n (by omega), eg4, rdA_s, cp _ _ k (by omega), eg3, rdA_n (by omega), eg2, rdA_n (by omega), gA2, ek.1, bgV_28 (by omega)]
    · rw [eg5, rdA_s, cp _ _ k (by omega), eg4, rdA_n (by omega), eg3, rdA_n (by omega), eg2, rdA_n (by omega), gA2, ek.2.1, bgV_lo (by omega)]
  · rw [eg5, rdA_n (by omega), eg4, rdA_n (by omega), eg3, rdA_n (by omega), eg2, rdA_n (by omega), gA2]
theorem wOk_bg {V : Nat → Int32} {n m c : Nat} (hv : vOk V n m c) : wOk (bgV V) n := by
  obtain ⟨-, -, -, -, v3, n8, -, -, v10, -, vk, -⟩ := hv
  refine ⟨by rw [bgV_lo (by omega)]; exact v3, n8, ⟨0, by decide, rfl⟩, fun k hk => ?_⟩
  obtain ⟨-, -, -, -, ⟨y, -, hy, ey⟩, -, -, ⟨z, hz, ez⟩⟩ := vk k hk
  refine ⟨Or.inl (bgV_12 (by omega)), ⟨z, ?_, by rw [bgV_36 (by omega)]; exact ez⟩, ⟨y, hy, by rw [bgV_lo (by omega)]; exact ey⟩⟩
  exact Nat.lt_of_lt_of_le hz (show 2 ^ n ≤ 2 ^ 8 from Nat.pow_le_pow_right (by decide) n8)
theorem wOk_ti {V : Nat → Int32} {n j z : Nat} (hv : wOk V n) (hz : z ≤ 40) : wOk (upd V (44 + j) (nI z)) n := by
  obtain ⟨a, b, c, d⟩ := hv
  refine ⟨by rw [pk_un (by omega)]; exact a, b, by rw [pk_un (by omega)]; exact c, fun k hk => ?_⟩
  rw [pk_un (show 12 + k ≠ 44 + j by omega), pk_un (show 36 + k ≠ 44 + j by omega)]
  refine ⟨(d k hk).1, (d k hk).2.1, ?_⟩
  by_cases q : k = j
  · subst q
    exact ⟨z, hz, pk_us⟩
  · rw [pk_un (by omega)]
    exact (d k hk).2.2
/-- the walk begins anew -/
theorem c_startAnew {h : xH} {n m c : Nat} {rl : Option Nat} {cs : List Cl} {V : Nat → Int32} (hv : vOk V n m c) (hto : toR h 0 V n m) (hc : clR h rl cs) : ∃ h', f_Walk_startAnew 0 rl h = some h' ∧ wkA h' (bgV V) n rl cs ∧ wkF h h' ∧ h'.1 10 1 0 = 0 := by
  obtain ⟨g, eg⟩ : ∃ g, g = xsI (xsR (xsR h 10 3 0 (some 0)) 10 4 0 rl) 10 1 0 0 := ⟨_, rfl⟩
  have gI : ∀ c k i, ¬ c = 10 → g.1 c k i = h.1 c k i := fun c k i q => by rw [eg, rdI (by omega)]; rfl
  have gA : g.2.2.2.1 = h.2.2.2.1 := by rw [eg]; rfl
  have gR3 : g.2.2.1 10 3 0 = some 0 := by
    rw [eg]
    show xw (xw h.2.2.1 10 3 (xu (h.2.2.1 10 3) 0 (some 0))) 10 4 (xu ((xsR h 10 3 0 (some 0)).2.2.1 10 4) 0 rl) 10 3 0 = some 0
    rw [xw_n (by decide), xw_s]
    rfl
  have gR4 : g.2.2.1 10 4 0 = rl := by
    rw [eg]
    show xw (xw h.2.2.1 10 3 (xu (h.2.2.1 10 3) 0 (some 0))) 10 4 (xu ((xsR h 10 3 0 (some 0)).2.2.1 10 4) 0 rl) 10 4 0 = rl
    rw [xw_s]
    rfl
  have hw := wOk_v hv
  have h8 := hw.2.1
  have hto2 : toR g 0 V n m := toR_of (fun k _ => gI 8 k 0 (by decide)) (fun f _ _ k _ => by rw [gA]) (fun k _ => by rw [gA]) hto
  obtain ⟨g1, e1, s1, c2, c4, c5⟩ := c_begin (i := 25) hto2 h8 hw.1
  have e10 : g1.1 10 1 0 = 0 := by rw [c2 10 1 0 (by decide), eg, rdI_s]
  refine ⟨g1, ?_, ⟨⟨0, ⟨s1, ⟨?_, ?_, fun k hk => ?_⟩, by rw [c5]; exact gR3, by rw [c5]; exact gR4, e10⟩, Or.inl rfl⟩, wOk_bg hv, clR_of (h := h) (fun k r => by rw [c2 2 k r (by omega), gI 2 k r (by decide)]) (fun r => by rw [c4 18 r (by omega), gA]) hc⟩, ⟨fun c k i p q => by rw [c2 c k i q, gI c k i p], fun f i q => by rw [c4 f i q, gA]⟩, e10⟩
  · show (f_State_begin 25 0 (xsI (xsR (xsR h 10 3 0 (some 0)) 10 4 0 rl) 10 1 0 0)).bind (fun h6 => some h6) = _
    rw [← eg, e1]
    rfl
  · rw [c2 8 1 0 (by decide), gI 8 1 0 (by decide), bgV_lo (by omega)]; exact hto.2.1
  · rw [c2 8 2 0 (by decide), gI 8 2 0 (by decide), bgV_lo (by omega)]; exact hto.2.2.1
  · rw [c4 39 0 (by omega), gA, bgV_lo (by omega)]; exact (hto.2.2.2.2.2.1 k hk).2.2.1
/-- what notes say of step i, in which k is lifted -/
def nsP (V : Nat → Int32) (c i : Nat) (k : Int32) : Prop := ∀ j, j < c → V (80 + 2 * j) = nI i → V (81 + 2 * j) = k
theorem m_areNotesSo {h : xH} {c i : Nat} {k : Int32} (hc : mS h 100 = nI c) (c10 : c ≤ 10) : ∃ b : Bool, f_M_areNotesSo (nI i) k h = some (if b then 1 else 0) ∧ (b = true ↔ nsP (mS h) c i k) := by
  have key := whl_cntE (step := fun s : Int32 => f_M_areNotesSo_s2 (nI i) k s h) c (fun j s => s = nI (2 * j) ∧ ∀ j', j' < j → mS h (80 + 2 * j') = nI i → mS h (81 + 2 * j') = k) (fun x => ∃ b : Bool, x = (if b then 1 else 0) ∧ (b = true ↔ nsP (mS h) c i k)) ?_ ?_ 0 ⟨nI_0.symm, fun j' hj => absurd hj (by omega)⟩
  · obtain ⟨x, e, b, rfl, q⟩ := key
    exact ⟨b, e, q⟩
  · rintro j hj s ⟨e1, l⟩
    have e1 : s = nI (2 * j) := e1
    subst e1
    have e100 : (2 : Int32) * mS h 100 = nI (2 * c) := by rw [hc]; exact pk_mul 2 c
    have run : f_M_areNotesSo_s2 (nI i) k (nI (2 * j)) h = (if mS h (80 + 2 * j) = nI i then (if k = mS h (81 + 2 * j) then some (Sum.inl (nI (2 * (j + 1)))) else some (Sum.inr 0)) else some (Sum.inl (nI (2 * (j + 1))))) := by
      have s2 : f_M_areNotesSo_s2 (nI i) k (nI (2 * j)) h = (if (2 : Int32) * mS h 100 ≤ nI (2 * j) then some (Sum.inr 1) else if xib ((80 : Int32) + nI (2 * j)) 101 then (if mS h ((80 : Int32) + nI (2 * j)).toNatClampNeg = nI i then (if xib (((80 : Int32) + nI (2 * j)) + 1) 101 then (if k = mS h (((80 : Int32) + nI (2 * j)) + 1).toNatClampNeg then some (Sum.inl (nI (2 * j) + 2)) else some (Sum.inr 0)) else none) else some (Sum.inl (nI (2 * j) + 2))) else none) := rfl
      have e81 : ((80 : Int32) + nI (2 * j)) + 1 = nI (81 + 2 * j) := by
        rw [show (80 : Int32) = nI 80 from rfl, nI_add, nI_1]
        exact congrArg nI (by omega)
      rw [s2, e100, if_neg (nI_ge (by omega) (by omega)), if_pos (xibA (c := 80) (a := 80) rfl (by omega) (by decide)), ixA (c := 80) (a := 80) rfl (by omega), e81, if_pos (xibN (by omega) (by decide)), nI_clamp (by omega), show nI (2 * j) + 2 = nI (2 * (j + 1)) from nI_add (2 * j) 2]
    by_cases q1 : mS h (80 + 2 * j) = nI i
    · by_cases q2 : k = mS h (81 + 2 * j)
      · left
        refine ⟨nI (2 * (j + 1)), by show f_M_areNotesSo_s2 (nI i) k (nI (2 * j)) h = _; rw [run, if_pos q1, if_pos q2], rfl, fun j' hj' y => ?_⟩
        by_cases q : j' = j
        · subst q; exact q2.symm
        · exact l j' (by omega) y
      · right
        exact ⟨0, by show f_M_areNotesSo_s2 (nI i) k (nI (2 * j)) h = _; rw [run, if_pos q1, if_neg q2], false, rfl, ⟨fun z => by (cases z), fun z => absurd (z j hj q1).symm q2⟩⟩
    · left
      refine ⟨nI (2 * (j + 1)), by show f_M_areNotesSo_s2 (nI i) k (nI (2 * j)) h = _; rw [run, if_neg q1], rfl, fun j' hj' y => ?_⟩
      by_cases q : j' = j
      · subst q; exact absurd y q1
      · exact l j' (by omega) y
  · rintro s ⟨e1, l⟩
    have e1 : s = nI (2 * c) := e1
    subst e1
    refine ⟨1, ?_, true, rfl, ⟨fun _ => l, fun _ => rfl⟩⟩
    show f_M_areNotesSo_s2 (nI i) k (nI (2 * c)) h = _
    have e100 : (2 : Int32) * h.2.2.2.1 56 0 ((100 : Int32)).toNatClampNeg = nI (2 * c) := by
      show (2 : Int32) * mS h 100 = _
      rw [hc]; exact pk_mul 2 c
    unfold f_M_areNotesSo_s2
    rw [e100, if_pos (Int32.le_refl _)]
/-- the scene's notes are those of V -/
def ntR (h : xH) (V : Nat → Int32) (c : Nat) : Prop := h.1 4 4 0 = nI c ∧ c ≤ 10 ∧ ∀ j, j < c → h.2.2.2.1 20 0 j = V (80 + 2 * j) ∧ h.2.2.2.1 21 0 j = V (81 + 2 * j)
theorem ntR_k {h h' : xH} {V : Nat → Int32} {c : Nat} (f : wkF h h') (hn : ntR h V c) : ntR h' V c := by
  refine ⟨by rw [f.1 4 4 0 (by decide) (by decide)]; exact hn.1, hn.2.1, fun j hj => ?_⟩
  rw [f.2 20 0 (by omega), f.2 21 0 (by omega)]
  exact hn.2.2 j hj
theorem c_agrees {h : xH} {V : Nat → Int32} {c i : Nat} {k : Int32} (hn : ntR h V c) : ∃ b : Bool, f_Scene_agrees 0 (nI i) k h = some (if b then 1 else 0) ∧ (b = true ↔ nsP V c i k) := by
  obtain ⟨hc, c10, hk⟩ := hn
  have key := whl_cntE (step := fun s : Int32 => f_Scene_agrees_s2 0 (nI i) k s h) c (fun j s => s = nI j ∧ ∀ j', j' < j → V (80 + 2 * j') = nI i → V (81 + 2 * j') = k) (fun x => ∃ b : Bool, x = (if b then 1 else 0) ∧ (b = true ↔ nsP V c i k)) ?_ ?_ 0 ⟨nI_0.symm, fun j' hj => absurd hj (by omega)⟩
  · obtain ⟨x, e, b, rfl, q⟩ := key
    exact ⟨b, e, q⟩
  · rintro j hj s ⟨e1, l⟩
    have e1 : s = nI j := e1
    subst e1
    have run : f_Scene_agrees_s2 0 (nI i) k (nI j) h = (if V (80 + 2 * j) = nI i then (if V (81 + 2 * j) = k then some (Sum.inl (nI (j + 1))) else some (Sum.inr 0)) else some (Sum.inl (nI (j + 1)))) := by
      have s2 : f_Scene_agrees_s2 0 (nI i) k (nI j) h = (if h.1 4 4 0 ≤ nI j then some (Sum.inr 1) else if (10 : Int32) ≤ nI j then some (Sum.inr 1) else if xib (nI j) 10 then (if h.2.2.2.1 20 0 (nI j).toNatClampNeg = nI i then (if xib (nI j) 10 then (if h.2.2.2.1 21 0 (nI j).toNatClampNeg = k then some (Sum.inl (nI j + 1)) else some (Sum.inr 0)) else none) else some (Sum.inl (nI j + 1))) else none) := rfl
      have c1 : h.2.2.2.1 20 0 (nI j).toNatClampNeg = V (80 + 2 * j) := by rw [nI_clamp (by omega)]; exact (hk j hj).1
      have c2 : h.2.2.2.1 21 0 (nI j).toNatClampNeg = V (81 + 2 * j) := by rw [nI_clamp (by omega)]; exact (hk j hj).2
      rw [s2, hc, if_neg (nI_ge hj (by omega)), if_neg (show ¬ (10 : Int32) ≤ nI j from nI_ge (b := 10) (by omega) (by decide)), if_pos (xibN (by omega) (by decide))]
      by_cases p1 : V (80 + 2 * j) = nI i
      · rw [if_pos (c1.trans p1), if_pos p1, if_pos (xibN (by omega) (by decide))]
        by_cases p2 : V (81 + 2 * j) = k
        · rw [if_pos (c2.trans p2), if_pos p2, nI_1]
        · rw [if_neg (fun y => p2 (c2.symm.trans y)), if_neg p2]
      · rw [if_neg (fun y => p1 (c1.symm.trans y)), if_neg p1, nI_1]
    by_cases q1 : V (80 + 2 * j) = nI i
    · by_cases q2 : V (81 + 2 * j) = k
      · left
        refine ⟨nI (j + 1), by show f_Scene_agrees_s2 0 (nI i) k (nI j) h = _; rw [run, if_pos q1, if_pos q2], rfl, fun j' hj' y => ?_⟩
        by_cases q : j' = j
        · subst q; exact q2
        · exact l j' (by omega) y
      · right
        exact ⟨0, by show f_Scene_agrees_s2 0 (nI i) k (nI j) h = _; rw [run, if_pos q1, if_neg q2], false, rfl, ⟨fun z => by (cases z), fun z => absurd (z j hj q1) q2⟩⟩
    · left
      refine ⟨nI (j + 1), by show f_Scene_agrees_s2 0 (nI i) k (nI j) h = _; rw [run, if_neg q1], rfl, fun j' hj' y => ?_⟩
      by_cases q : j' = j
      · subst q; exact absurd y q1
      · exact l j' (by omega) y
  · rintro s ⟨e1, l⟩
    have e1 : s = nI c := e1
    subst e1
    refine ⟨1, ?_, true, rfl, ⟨fun _ => l, fun _ => rfl⟩⟩
    show f_Scene_agrees_s2 0 (nI i) k (nI c) h = _
    unfold f_Scene_agrees_s2
    rw [hc, if_pos (Int32.le_refl _)]
/-- no note is of a step from L on -/
theorem c_lastNoted {h : xH} {V : Nat → Int32} {c : Nat} (hn : ntR h V c) (hz : ∀ j, j < c → ∃ z, z ≤ 60 ∧ V (80 + 2 * j) = nI z) : ∃ L, L ≤ 61 ∧ f_Scene_lastNoted 0 h = some (nI L - 1) ∧ ∀ j, j < c → ∀ z, z ≤ 60 → V (80 + 2 * j) = nI z → z < L := by
  obtain ⟨hc, c10, hk⟩ := hn
  have key := whl_cntE (step := fun s : Int32 × Int32 => f_Scene_lastNoted_s4 0 s.1 s.2 h) c (fun j s => s.2 = nI j ∧ ∃ L, L ≤ 61 ∧ s.1 = nI L - 1 ∧ ∀ j', j' < j → ∀ z, z ≤ 60 → V (80 + 2 * j') = nI z → z < L) (fun x => ∃ L, L ≤ 61 ∧ x = nI L - 1 ∧ ∀ j, j < c → ∀ z, z ≤ 60 → V (80 + 2 * j) = nI z → z < L) ?_ ?_ (-1, 0) ⟨nI_0.symm, 0, by decide, by decide, fun j' hj => absurd hj (by omega)⟩
  · obtain ⟨x, e, L, hL, rfl, q⟩ := key
    exact ⟨L, hL, e, q⟩
  · rintro j hj ⟨s1, s2⟩ ⟨e1, L, hL, e2, l⟩
    have e1 : s2 = nI j := e1
    have e2 : s1 = nI L - 1 := e2
    subst e1
    subst e2
    left
    obtain ⟨z, hz6, ez⟩ := hz j hj
    have run : f_Scene_lastNoted_s4 0 (nI L - 1) (nI j) h = (f_Math_max (nI L - 1) (nI z) h).bind (fun r4 => some (Sum.inl (r4, nI (j + 1)))) := by
      unfold f_Scene_lastNoted_s4
      rw [hc, if_neg (nI_ge hj (by omega)), if_neg (show ¬ (10 : Int32) ≤ nI j from nI_ge (b := 10) (by omega) (by decide)), if_pos (xibN (by omega) (by decide)), nI_clamp (by omega), (hk j hj).1, ez, nI_1]
      rfl
    have cmp : (nI L - 1 < nI z) ↔ L ≤ z := by
      rw [Int32.lt_iff_toInt_lt, show (1 : Int32) = nI 1 from rfl, pk_sub_toInt (by omega) (by omega), nI_toInt (by omega)]
      omega
    have ez1 : nI (z + 1) - 1 = nI z := nI_pred z
    have mx : f_Math_max (nI L - 1) (nI z) h = some (nI (max L (z + 1)) - 1) := by
      show (if nI L - 1 < nI z then some (nI z) else some (nI L - 1)) = _
      by_cases q : L ≤ z
      · rw [if_pos (cmp.mpr q), Nat.max_eq_right (by omega), ez1]
      · rw [if_neg (fun y => q (cmp.mp y)), Nat.max_eq_left (by omega)]
    refine ⟨_, by show f_Scene_lastNoted_s4 0 (nI L - 1) (nI j) h = _; rw [run, mx, Option.bind_some], rfl, max L (z + 1), by omega, rfl, fun j' hj' y hy ey => ?_⟩
    by_cases q : j' = j
    · subst q
      have : y = z := (nI_eq (by omega) (by omega)).mp (ey.symm.trans ez)
      omega
    · have := l j' (by omega) y hy ey
      omega
  · rintro ⟨s1, s2⟩ ⟨e1, L, hL, e2, l⟩
    have e1 : s2 = nI c := e1
    have e2 : s1 = nI L - 1 := e2
    subst e1
    subst e2
    refine ⟨nI L - 1, ?_, L, hL, rfl, l⟩
    show f_Scene_lastNoted_s4 0 (nI L - 1) (nI c) h = _
    unfold f_Scene_lastNoted_s4
    rw [hc, if_pos (Int32.le_refl _)]
