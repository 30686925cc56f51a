/-! PURE: trug -/
def trM (b b' : xH) : Prop := (∀ c k i, ¬ (c = 12 ∧ (k = 1 ∨ (8 ≤ k ∧ k ≤ 14))) → b'.1 c k i = b.1 c k i) ∧ (∀ f i, ¬ ((f = 52 ∨ f = 49) ∧ i = 0) → b'.2.2.2.1 f i = b.2.2.2.1 f i) ∧ ∀ j, j ≠ 6 → b'.2.2.2.1 49 0 j = b.2.2.2.1 49 0 j
theorem to_bg {h : xH} {i n m : Nat} {A : Nat → Int32} (h8 : n ≤ 8) (h4 : m ≤ 4) (ht : toR h i A n m) : toR h i (bgV A) n m := by
  obtain ⟨a, b, c, d, e, f, g, g2⟩ := ht
  refine ⟨by rw [bgV_lo (by omega)]; exact a, by rw [bgV_lo (by omega)]; exact b, by rw [bgV_lo (by omega)]; exact c, by rw [bgV_lo (by omega)]; exact d, by rw [bgV_lo (by omega)]; exact e, fun k hk => ?_, fun k hk => by rw [bgV_lo (by omega)]; exact g k hk, g2⟩
  rw [bgV_lo (by omega), bgV_lo (by omega), bgV_lo (by omega), bgV_lo (by omega)]
  exact f k hk
theorem to_dD {a b g : xH} {n m : Nat} {A : Nat → Int32} (hd : dD a b n m) (r0 : rd b 0 = 1) (hA : ∀ k, k < 80 → A k = rd b k) (e8 : ∀ k, k < 5 → g.1 8 k 0 = a.1 8 k 5) (e37 : ∀ f, 37 ≤ f → f ≤ 40 → ∀ k, k < 8 → g.2.2.2.1 f 0 k = a.2.2.2.1 f 5 k) (e41 : ∀ k, k < 4 → g.2.2.2.1 41 0 k = a.2.2.2.1 41 5 k) : toR g 0 A n m := by
  obtain ⟨h1, h2, h3, h4, h5, h6, h7, h8, h9, h10, h11, h12, h13, h14, h15⟩ := hd
  refine ⟨by rw [e8 0 (by decide), hA 0 (by decide), r0]; exact h1, by rw [e8 1 (by decide), hA 1 (by decide)]; exact h8, by rw [e8 2 (by decide), hA 2 (by decide)]; exact h9, by rw [e8 3 (by decide), hA 3 (by decide), h3]; exact h2, by rw [e8 4 (by decide), hA 4 (by decide), h6]; exact h5, fun k hk => ?_, fun k hk => by rw [e41 k (by omega), hA (60 + k) (by omega)]; exact (h14 k hk).1, fun k p q => by rw [e41 k q]; exact h15 k p q⟩
  rw [e37 37 (by decide) (by decide) k (by omega), e37 38 (by decide) (by decide) k (by omega), e37 39 (by decide) (by decide) k (by omega), e37 40 (by decide) (by decide) k (by omega), hA (64 + k) (by omega), hA (44 + k) (by omega), hA (52 + k) (by omega), hA (72 + k) (by omega)]
  exact ⟨(h12 k hk).1, (h12 k hk).2.1, (h12 k hk).2.2.1, (h13 k (by omega)).1⟩
theorem vOk_dD {a b : xH} {n m : Nat} {A : Nat → Int32} (hd : dD a b n m) (r0 : rd b 0 = 1) (hA : ∀ k, k < 80 → A k = rd b k) (h100 : A 100 = 0) : vOk (bgV A) n m 0 := by
  obtain ⟨h1, h2, h3, h4, h5, h6, h7, h8, h9, h10, h11, h12, h13, h14, h15⟩ := hd
  have lo : ∀ k, (k < 10 ∨ 44 ≤ k) → k < 80 → bgV A k = rd b k := fun k p q => by rw [bgV_lo p, hA k q]
  have v0 : bgV A 0 = 1 := by rw [lo 0 (by omega) (by omega)]; exact r0
  refine ⟨Or.inr v0, fun z => absurd (v0.symm.trans z) (by decide), by rw [lo 1 (by omega) (by omega)]; exact h10, by rw [lo 2 (by omega) (by omega)]; exact h11, by rw [lo 3 (by omega) (by omega)]; exact h3, h4, by rw [lo 4 (by omega) (by omega)]; exact h6, h7, ⟨0, by decide, by rw [bgV_10]; rfl⟩, ⟨0, by decide, by rw [bgV_11]; rfl⟩, fun k hk => ?_, fun k hk => by rw [lo (60 + k) (by omega) (by omega)]; exact (h14 k hk).2, by rw [bgV_lo (by omega), h100]; rfl, by decide, fun j hj => absurd hj (by omega)⟩
  rw [bgV_12 (by omega), bgV_20 (by omega), bgV_28 (by omega), bgV_36 (by omega), lo (44 + k) (by omega) (by omega), lo (52 + k) (by omega) (by omega), lo (64 + k) (by omega) (by omega), lo (72 + k) (by omega) (by omega), hA (64 + k) (by omega), hA (72 + k) (by omega)]
  obtain ⟨-, -, -, x1, x2, x3⟩ := h12 k hk
  have x4 := (h13 k (by omega)).2
  exact ⟨Or.inl rfl, Or.inl rfl, x1, x4, x2, x3, x1, x4⟩
variable {Q : xH → Nat → Prop}
theorem p_trug (hQ : qOk Q) : lI_trug (jII Q) := by
  rintro h ⟨R, hR, r1, r2, hj, hq⟩
  obtain ⟨ht, hf, him, n0, m0, c0, hsc0, hpa⟩ := id hj
  obtain ⟨t, t1, t2, t3, t4⟩ := id ht
  obtain ⟨B, eB⟩ : ∃ B : Nat → Nat, B = fun j => bN (h.2.2.2.1 33 0 j) := ⟨_, rfl⟩
  have hc : ctx h t B := ⟨t2, t1, fun j _ => by rw [eB]; exact ⟨rfl, bN_lt⟩⟩
  have hm : ∀ b : xH, b.1 12 1 0 = h.1 12 1 0 → b.2.2.2.1 47 0 = h.2.2.2.1 47 0 → mtx b t B := fun b e1 e2 => ⟨e1.trans t3, t1, fun j hj => by
    rw [e2, eB]
    exact ⟨(t4 j hj).2, by show bN _ = bN _; rw [(t4 j hj).1]⟩⟩
  obtain ⟨a, ea, ta, wa, fa, e9, hda⟩ := c_startT hc
  have run : ∀ b : xH, b.1 12 1 0 = h.1 12 1 0 → b.2.2.2.1 47 0 = h.2.2.2.1 47 0 → ∃ f a' b', f_TrugReader_readAll h = some (f, a') ∧ f_M_trug b = (if f = 0 then f_M_trug_l44 0 b' else some (-2 - f, b')) ∧ rcF h a' ∧ trM b b' ∧ b'.1 12 1 0 = 0 ∧ (f = 0 → ∃ n m, dD a' b' n m ∧ rd b' 0 = 1) := fun b e1 e2 => by
    obtain ⟨b0, x1, x2, x3, x4, x5, x6, x7⟩ := m_start (hm b e1 e2)
    obtain ⟨f, a', b', q, y1, y2, y3, y4, y5, y6, y7, y8⟩ := lk_all 41 0 (by omega) (by omega) a b0 t (rn isSB B t 0) 0 0 B ⟨ta, 0, x2, rfl⟩ wa x3 (hda b0 x6) e9 x4 x5 (Or.inl ⟨rfl, x6 0 (by decide)⟩)
    refine ⟨f, a', b', by rw [ea]; exact y1, ?_, rcF_t fa y5, ⟨fun c k i z => (y6.1 c k i (by omega)).trans (x7.1 c k i (by omega)), fun g i z => (y6.2 g i (by omega)).trans (x7.2.1 g i z), fun j hj => by rw [y6.2 49 0 (by decide)]; exact x7.2.2 j hj⟩, y7, y8⟩
    rw [x1 q y2, y3, Option.bind_some]
    by_cases z : f = 0
    · rw [if_pos z, if_neg i1, if_pos z]
    · rw [if_neg z, if_pos rfl, if_neg z, y4]
  have cl : f_B_trug h = (f_TrugReader_readAll h).bind (fun q3 => if q3.1 = 0 then (f_Told_copyFrom 0 5 (xsI q3.2 7 6 0 0)).bind (fun h8 => (f_State_begin 0 0 h8).bind (fun h11 => some ((xsI (xsI h11 4 4 0 0) 1 2 0 0).1 8 3 0, xsI (xsI h11 4 4 0 0) 1 2 0 0))) else some (-2 - q3.1, xsI q3.2 7 6 0 0)) := rfl
  obtain ⟨f, a', b1, ra, -, fr, -, -, dd⟩ := run h rfl rfl
  rw [ra, Option.bind_some] at cl
  by_cases z : f = 0
  · obtain ⟨n1, m1, d1, z1⟩ := dd z
    rw [if_pos z] at cl
    obtain ⟨g4, eg4⟩ : ∃ g4, g4 = xsI a' 7 6 0 0 := ⟨_, rfl⟩
    rw [← eg4] at cl
    have g48 : ∀ k i, g4.1 8 k i = a'.1 8 k i := fun k i => by rw [eg4, rdI (by omega)]
    have g4A : ∀ f i, g4.2.2.2.1 f i = a'.2.2.2.1 f i := fun f i => by rw [eg4]; rfl
    obtain ⟨g5, eg5, cp1, cp2, cp3, cp4, cp5⟩ := c_toldCopy (h := g4) (a := 0) (b := 5) (by decide) (Or.inr (by rw [g48]; exact d1.1))
    rw [eg5, Option.bind_some] at cl
    have tod : ∀ b n m (A : Nat → Int32), dD a' b n m → rd b 0 = 1 → (∀ k, k < 80 → A k = rd b k) → toR g5 0 A n m := fun b n m A hd r0 hA => to_dD hd r0 hA (fun k hk => (cp1 k hk).trans (g48 k 5)) (fun f p q k hk => (cp3 f p q k hk).trans (by rw [g4A])) (fun k hk => (cp4 k hk).trans (by rw [g4A]))
    obtain ⟨g6, eg6, -, bf1, bf2, -⟩ := c_begin (i := 0) (tod b1 n1 m1 (rd b1) d1 z1 (fun _ _ => rfl)) d1.2.2.2.1 d1.2.2.1
    rw [eg6, Option.bind_some] at cl
    obtain ⟨g8, eg8⟩ : ∃ g8, g8 = xsI (xsI g6 4 4 0 0) 1 2 0 0 := ⟨_, rfl⟩
    rw [← eg8] at cl
    have i8 : ∀ c k i, ¬ c = 7 → ¬ (c = 8 ∧ (i = 5 ∨ i = 0)) → ¬ c = 9 → ¬ (c = 6 ∧ i = 0) → ¬ (c = 4 ∧ k = 4 ∧ i = 0) → ¬ (c = 1 ∧ k = 2) → g8.1 c k i = h.1 c k i := fun c k i p1 p2 p3 p4 p5 p6 => by
      rw [eg8, rdI p6, rdI_3 p5, bf1 c k i p4, cp2 c k i (by omega), eg4, rdI (by omega)]
      exact fr.1 c k i (by omega) (by omega) p3
    have a8 : ∀ f i, ¬ (i = 0 ∧ 34 ≤ f ∧ f ≤ 36) → ¬ ((i = 5 ∨ i = 0) ∧ 37 ≤ f ∧ f ≤ 41) → ¬ (i = 0 ∧ 29 ≤ f ∧ f ≤ 32) → g8.2.2.2.1 f i = h.2.2.2.1 f i := fun f i p1 p2 p3 => by
      rw [eg8]
      show g6.2.2.2.1 f i = _
      rw [bf2 f i (by omega), cp5 f i (by omega), g4A]
      exact fr.2 f i p1 (by omega)
    obtain ⟨f', a2, b2, ra2, rb2, -, tm, b21, dd2⟩ := run g8 (i8 12 1 0 (by omega) (by omega) (by omega) (by omega) (by omega) (by omega)) (a8 47 0 (by omega) (by omega) (by omega))
    rw [ra] at ra2
    obtain ⟨rfl, rfl⟩ : f = f' ∧ a' = a2 := ⟨congrArg Prod.fst (Option.some.inj ra2), congrArg Prod.snd (Option.some.inj ra2)⟩
    obtain ⟨n, m, d2, z2⟩ := dd2 z
    rw [if_pos z] at rb2
    obtain ⟨A, eA, hA, h100⟩ := m_end (b := b2)
    rw [eA] at rb2
    have to5 := tod b2 n m A d2 z2 hA
    have n8 : n ≤ 8 := d2.2.2.2.1
    have m4 : m ≤ 4 := d2.2.2.2.2.2.2.1
    have A3 : A 3 = nI n := (hA 3 (by decide)).trans d2.2.2.1
    obtain ⟨g6', eg6', st6, -⟩ := c_begin (i := 0) to5 n8 A3
    rw [eg6] at eg6'
    have e66 : g6 = g6' := Option.some.inj eg6'
    subst e66
    obtain ⟨h2, eh2⟩ : ∃ h2, h2 = xsI (xsA b2 56 0 (bgV A)) 12 24 0 0 := ⟨_, rfl⟩
    rw [← eh2] at rb2
    have em : mS h2 = bgV A := by rw [eh2]; exact rdA_s
    have i28 : ∀ c k i, ¬ (c = 12 ∧ (k = 1 ∨ (8 ≤ k ∧ k ≤ 14) ∨ k = 24)) → h2.1 c k i = g8.1 c k i := fun c k i p => by
      rw [eh2, rdI (by omega)]
      exact tm.1 c k i (by omega)
    have a28 : ∀ f i, ¬ ((f = 52 ∨ f = 49 ∨ f = 56) ∧ i = 0) → h2.2.2.2.1 f i = g8.2.2.2.1 f i := fun f i p => by
      rw [eh2]
      show (xsA b2 56 0 (bgV A)).2.2.2.1 f i = _
      rw [rdA_n (by omega)]
      exact tm.2.1 f i (by omega)
    have g83 : g8.1 8 3 0 = bgV A 3 := by
      rw [eg8, rdI (by decide), rdI (by decide), bf1 8 3 0 (by omega), bgV_lo (by omega)]
      exact to5.2.2.2.1
    rw [g83] at cl
    have eI : ∀ c k i, ¬ c = 7 → ¬ (c = 8 ∧ (i = 5 ∨ i = 0)) → ¬ c = 9 → ¬ (c = 6 ∧ i = 0) → ¬ (c = 4 ∧ k = 4 ∧ i = 0) → ¬ (c = 1 ∧ k = 2) → ¬ (c = 12 ∧ (k = 1 ∨ (8 ≤ k ∧ k ≤ 14) ∨ k = 24)) → h2.1 c k i = h.1 c k i := fun c k i p1 p2 p3 p4 p5 p6 p7 => (i28 c k i p7).trans (i8 c k i p1 p2 p3 p4 p5 p6)
    have eA : ∀ f i, ¬ (i = 0 ∧ 34 ≤ f ∧ f ≤ 36) → ¬ ((i = 5 ∨ i = 0) ∧ 37 ≤ f ∧ f ≤ 41) → ¬ (i = 0 ∧ 29 ≤ f ∧ f ≤ 32) → ¬ ((f = 52 ∨ f = 49 ∨ f = 56) ∧ i = 0) → h2.2.2.2.1 f i = h.2.2.2.1 f i := fun f i p1 p2 p3 p4 => (a28 f i p4).trans (a8 f i p1 p2 p3)
    refine ⟨_, g8, h2, cl, rb2, R, hR, (eI 11 5 0 (by omega) (by omega) (by omega) (by omega) (by omega) (by omega) (by omega)).trans r1, (eI 12 2 0 (by omega) (by omega) (by omega) (by omega) (by omega) (by omega) (by omega)).trans r2, ⟨?_, ?_, fun j hj => ?_, n, m, 0, ?_, ?_⟩, hQ h h2 R ⟨fun z i => eI 2 z i (by omega) (by omega) (by omega) (by omega) (by omega) (by omega) (by omega), funext fun i => eA 18 i (by omega) (by omega) (by omega) (by omega), funext fun i => eA 48 i (by omega) (by omega) (by omega) (by omega), fun j hj => ?_, funext fun i => eA 50 i (by omega) (by omega) (by omega) (by omega), funext fun i => eA 51 i (by omega) (by omega) (by omega) (by omega)⟩ hq⟩
    · refine ⟨0, by decide, ?_, ?_, fun j hj => absurd hj (by omega)⟩
      · rw [i28 7 6 0 (by omega), eg8, rdI (by decide), rdI (by decide), bf1 7 6 0 (by omega), cp2 7 6 0 (by omega), eg4, rdI_s]; rfl
      · rw [eh2, rdI (by decide)]
        exact b21.trans nI_0.symm
    · exact fxR_of (eI _ _ _ (by omega) (by omega) (by omega) (by omega) (by omega) (by omega) (by omega)) (eI _ _ _ (by omega) (by omega) (by omega) (by omega) (by omega) (by omega) (by omega)) (eI _ _ _ (by omega) (by omega) (by omega) (by omega) (by omega) (by omega) (by omega)) (eI _ _ _ (by omega) (by omega) (by omega) (by omega) (by omega) (by omega) (by omega)) hf
    · exact imR_of (by rw [eA 45 0 (by omega) (by omega) (by omega) (by omega)]) (by rw [eA 69 0 (by omega) (by omega) (by omega) (by omega)]) (by rw [eA 67 0 (by omega) (by omega) (by omega) (by omega)]) (by rw [eA 68 0 (by omega) (by omega) (by omega) (by omega)]) (fun t _ => by rw [eA 66 0 (by omega) (by omega) (by omega) (by omega)]) (fun c z hc => eI c z _ (by omega) (by omega) (by omega) (by omega) (by omega) (by omega) (by omega)) (fun f hf => eA f _ (by omega) (by omega) (by omega) (by omega)) (him j hj)
    · rw [em]
      refine ⟨vOk_dD d2 z2 hA h100, to_bg n8 m4 (toR_of (fun k hk => ?_) (fun f p q k hk => ?_) (fun k hk => ?_) to5), stR_of (fun k hk => ?_) (fun f p q k hk => ?_) st6, ?_, fun j hj => absurd hj (by omega)⟩
      · rw [i28 8 k 0 (by omega), eg8, rdI (by omega), rdI (by omega), bf1 8 k 0 (by omega)]
      · rw [a28 f 0 (by omega), eg8]
        show g6.2.2.2.1 f 0 k = _
        rw [bf2 f 0 (by omega)]
      · rw [a28 41 0 (by omega), eg8]
        show g6.2.2.2.1 41 0 k = _
        rw [bf2 41 0 (by omega)]
      · rw [i28 6 k 0 (by omega), eg8, rdI (by omega), rdI (by omega)]
      · rw [a28 f 0 (by omega), eg8]; rfl
      · rw [i28 4 4 0 (by omega), eg8, rdI (by decide), rdI_s, bgV_lo (by omega), h100]
    · obtain ⟨u, x, -, x20, -, -, e, -⟩ := hpa
      exact ⟨0, x, by omega, x20, by rw [i28 1 2 0 (by omega), eg8, rdI_s, nI_0], by rw [eh2, rdI_s, nI_0], (eI 1 1 0 (by omega) (by omega) (by omega) (by omega) (by omega) (by omega) (by omega)).trans e, fun j hj => absurd hj (by omega)⟩
    · rw [eh2]
      show (xsA b2 56 0 (bgV A)).2.2.2.1 49 0 j = _
      rw [rdA_n (by omega), tm.2.2 j (by omega), a8 49 0 (by omega) (by omega) (by omega)]
  · rw [if_neg z] at cl
    obtain ⟨g4, eg4⟩ : ∃ g4, g4 = xsI a' 7 6 0 0 := ⟨_, rfl⟩
    rw [← eg4] at cl
    have i8 : ∀ c k i, ¬ c = 7 → ¬ (c = 8 ∧ i = 5) → ¬ c = 9 → g4.1 c k i = h.1 c k i := fun c k i p1 p2 p3 => by
      rw [eg4, rdI (by omega)]
      exact fr.1 c k i (by omega) p2 p3
    have a8 : ∀ f i, ¬ (i = 0 ∧ 34 ≤ f ∧ f ≤ 36) → ¬ (i = 5 ∧ 37 ≤ f ∧ f ≤ 41) → g4.2.2.2.1 f i = h.2.2.2.1 f i := fun f i p1 p2 => by
      rw [eg4]
      exact fr.2 f i p1 p2
    obtain ⟨f', a2, b2, ra2, rb2, -, tm, b21, -⟩ := run g4 (i8 12 1 0 (by omega) (by omega) (by omega)) (a8 47 0 (by omega) (by omega))
    rw [ra] at ra2
    obtain ⟨rfl, rfl⟩ : f = f' ∧ a' = a2 := ⟨congrArg Prod.fst (Option.some.inj ra2), congrArg Prod.snd (Option.some.inj ra2)⟩
    rw [if_neg z] at rb2
    have eI : ∀ c k i, ¬ c = 7 → ¬ (c = 8 ∧ i = 5) → ¬ c = 9 → ¬ (c = 12 ∧ (k = 1 ∨ (8 ≤ k ∧ k ≤ 14))) → b2.1 c k i = h.1 c k i := fun c k i p1 p2 p3 p7 => (tm.1 c k i p7).trans (i8 c k i p1 p2 p3)
    have eA : ∀ f i, ¬ (i = 0 ∧ 34 ≤ f ∧ f ≤ 36) → ¬ (i = 5 ∧ 37 ≤ f ∧ f ≤ 41) → ¬ ((f = 52 ∨ f = 49) ∧ i = 0) → b2.2.2.2.1 f i = h.2.2.2.1 f i := fun f i p1 p2 p4 => (tm.2.1 f i p4).trans (a8 f i p1 p2)
    refine ⟨_, g4, b2, cl, rb2, R, hR, (eI 11 5 0 (by omega) (by omega) (by omega) (by omega)).trans r1, (eI 12 2 0 (by omega) (by omega) (by omega) (by omega)).trans r2, ⟨?_, ?_, fun j hj => ?_, n0, m0, c0, ?_, ?_⟩, hQ h b2 R ⟨fun z i => eI 2 z i (by omega) (by omega) (by omega) (by omega), funext fun i => eA 18 i (by omega) (by omega) (by omega), funext fun i => eA 48 i (by omega) (by omega) (by omega), fun j hj => ?_, funext fun i => eA 50 i (by omega) (by omega) (by omega), funext fun i => eA 51 i (by omega) (by omega) (by omega)⟩ hq⟩
    · refine ⟨0, by decide, ?_, b21.trans nI_0.symm, fun j hj => absurd hj (by omega)⟩
      rw [tm.1 7 6 0 (by omega), eg4, rdI_s]; rfl
    · exact fxR_of (eI _ _ _ (by omega) (by omega) (by omega) (by omega)) (eI _ _ _ (by omega) (by omega) (by omega) (by omega)) (eI _ _ _ (by omega) (by omega) (by omega) (by omega)) (eI _ _ _ (by omega) (by omega) (by omega) (by omega)) hf
    · exact imR_of (by rw [eA 45 0 (by omega) (by omega) (by omega)]) (by rw [eA 69 0 (by omega) (by omega) (by omega)]) (by rw [eA 67 0 (by omega) (by omega) (by omega)]) (by rw [eA 68 0 (by omega) (by omega) (by omega)]) (fun t _ => by rw [eA 66 0 (by omega) (by omega) (by omega)]) (fun c z hc => eI c z _ (by omega) (by omega) (by omega) (by omega)) (fun f hf => eA f _ (by omega) (by omega) (by omega)) (him j hj)
    · exact scR_of (fun k _ => eI 8 k 0 (by omega) (by omega) (by omega) (by omega)) (fun k _ => eI 6 k 0 (by omega) (by omega) (by omega) (by omega)) (eI 4 4 0 (by omega) (by omega) (by omega) (by omega)) (fun f p q k _ => by rw [eA f 0 (by omega) (by omega) (by omega)]) (fun k _ => by rw [eA 41 0 (by omega) (by omega) (by omega)]) (fun f p q k _ => by rw [eA f 0 (by omega) (by omega) (by omega)]) (fun f p k _ => by rw [eA f 0 (by omega) (by omega) (by omega)]) (fun t _ => by show b2.2.2.2.1 56 0 t = _; rw [eA 56 0 (by omega) (by omega) (by omega)]) hsc0
    · exact paR_of (eI 1 1 0 (by omega) (by omega) (by omega) (by omega)) (eI 1 2 0 (by omega) (by omega) (by omega) (by omega)) (eI 12 24 0 (by omega) (by omega) (by omega) (by omega)) (fun k i _ _ => eI 6 k i (by omega) (by omega) (by omega) (by omega)) (fun f i _ _ _ _ => eA f i (by omega) (by omega) (by omega)) (eA 57 0 (by omega) (by omega) (by omega)) (eA 56 0 (by omega) (by omega) (by omega)) hpa
    · rw [tm.2.2 j (by omega), a8 49 0 (by omega) (by omega)]
