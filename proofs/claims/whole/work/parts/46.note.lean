/-! PURE: notes -/
theorem vOk_note {V W : Nat → Int32} {n m c c' : Nat} (hv : vOk V n m c) (hV : ∀ t, t < 80 → W t = V t) (h100 : W 100 = nI c') (c10 : c' ≤ 10) (h0 : V 0 = 0 → c' = 0) (hk : ∀ j, j < c' → (∃ z, z ≤ 60 ∧ W (80 + 2 * j) = nI z) ∧ (W (81 + 2 * j) = -1 ∨ ∃ z, z < n ∧ W (81 + 2 * j) = nI z)) : vOk W n m c' := by
  obtain ⟨a0, a1, a2, a3, a4, n8, a5, m4, b1, b2, a6, a7, -, -, -⟩ := hv
  refine ⟨by rw [hV 0 (by omega)]; exact a0, fun q => ?_, by rw [hV 1 (by omega)]; exact a2, by rw [hV 2 (by omega)]; exact a3, by rw [hV 3 (by omega)]; exact a4, n8, by rw [hV 4 (by omega)]; exact a5, m4, by rw [hV 10 (by omega)]; exact b1, by rw [hV 11 (by omega)]; exact b2, fun k hkn => ?_, fun k hkm => by rw [hV (60 + k) (by omega)]; exact a7 k hkm, h100, c10, hk⟩
  · rw [hV 0 (by omega)] at q
    exact ⟨(a1 q).1, (a1 q).2.1, h0 q⟩
  · rw [hV (12 + k) (by omega), hV (20 + k) (by omega), hV (28 + k) (by omega), hV (36 + k) (by omega), hV (44 + k) (by omega), hV (52 + k) (by omega), hV (64 + k) (by omega), hV (72 + k) (by omega)]
    exact a6 k hkn
theorem stR_v {h : xH} {i n : Nat} {V W : Nat → Int32} (n8 : n ≤ 8) (hV : ∀ t, t < 80 → W t = V t) (hr : stR h i V n) : stR h i W n := by
  obtain ⟨a, b, c, d, e⟩ := hr
  refine ⟨by rw [hV 10 (by omega)]; exact a, by rw [hV 11 (by omega)]; exact b, c.trans (congrArg nI (bs_congr (fun k hk => by unfold vIn; rw [hV (12 + k) (by omega)]))), d.trans (congrArg nI (bs_congr (fun k hk => by unfold vLb; rw [hV (12 + k) (by omega)]))), fun k hk => ?_⟩
  rw [hV (20 + k) (by omega), hV (36 + k) (by omega), hV (28 + k) (by omega), hV (44 + k) (by omega)]
  exact e k hk
theorem toR_n {h : xH} {i n m : Nat} {V W : Nat → Int32} (h8 : n ≤ 8) (m4 : m ≤ 4) (hV : ∀ t, t < 80 → W t = V t) (hr : toR h i V n m) : toR h i W n m := by
  obtain ⟨a, b, c, d, e, f, g⟩ := hr
  refine ⟨by rw [hV 0 (by omega)]; exact a, by rw [hV 1 (by omega)]; exact b, by rw [hV 2 (by omega)]; exact c, by rw [hV 3 (by omega)]; exact d, by rw [hV 4 (by omega)]; exact e, fun k hk => ?_, fun k hk => by rw [hV (60 + k) (by omega)]; exact g.1 k hk, g.2⟩
  rw [hV (64 + k) (by omega), hV (44 + k) (by omega), hV (52 + k) (by omega), hV (72 + k) (by omega)]
  exact f k hk
/-- only the notes of the scene and of the reference have changed -/
def ntF (h h2 : xH) : Prop := (∀ c k i, ¬ (c = 4 ∧ k = 4 ∧ i = 0) → h2.1 c k i = h.1 c k i) ∧ (∀ f i, ¬ (i = 0 ∧ (f = 20 ∨ f = 21 ∨ f = 56)) → h2.2.2.2.1 f i = h.2.2.2.1 f i) ∧ ∀ t, t < 80 → mS h2 t = mS h t
theorem note_jI {h h2 : xH} {R n m c c' : Nat} (ht : tpR h) (hf : fxR h R) (him : ∀ k, k < 4 → imR h R k) (hsc : scR h 0 (mS h) n m c) (hpa : paR h n m c) (hF : ntF h h2) (e4 : h2.1 4 4 0 = nI c') (h100 : mS h2 100 = nI c') (c10 : c' ≤ 10) (h0 : mS h 0 = 0 → c' = 0) (hk : ∀ j, j < c' → ((∃ z, z ≤ 60 ∧ mS h2 (80 + 2 * j) = nI z) ∧ (mS h2 (81 + 2 * j) = -1 ∨ ∃ z, z < n ∧ mS h2 (81 + 2 * j) = nI z)) ∧ h2.2.2.2.1 20 0 j = mS h2 (80 + 2 * j) ∧ h2.2.2.2.1 21 0 j = mS h2 (81 + 2 * j)) : jI h2 R := by
  obtain ⟨eI, eA, eS⟩ := hF
  obtain ⟨sv, st, ss, sn, sk⟩ := hsc
  obtain ⟨-, -, -, -, v3, n8, v4, m4, -⟩ := id sv
  have sU : ∀ i n W, stR h i W n → stR h2 i W n := fun i n W hr => stR_of (fun k _ => eI 6 k i (by omega)) (fun f a b k _ => by rw [eA f i (by omega)]) hr
  have toU : ∀ i n m W, toR h i W n m → toR h2 i W n m := fun i n m W hr => toR_of (fun k _ => eI 8 k i (by omega)) (fun f a b k _ => by rw [eA f i (by omega)]) (fun k _ => by rw [eA 41 i (by omega)]) hr
  refine ⟨?_, ?_, fun k hk => ?_, n, m, c', ?_, ?_⟩
  · obtain ⟨t, t1, t2, t3, t4⟩ := ht
    refine ⟨t, t1, by rw [eI 7 6 0 (by decide)]; exact t2, by rw [eI 12 1 0 (by decide)]; exact t3, fun j hj => ?_⟩
    rw [eA 33 0 (by omega), eA 47 0 (by omega)]
    exact t4 j hj
  · unfold fxR
    rw [eI 4 2 0 (by decide), eI 4 3 0 (by decide), eI 12 21 0 (by decide), eI 12 22 0 (by decide)]
    exact hf
  · have hr := him k hk
    have e : imV h2 k = imV h k := by
      funext j
      show h2.2.2.2.1 66 0 _ = h.2.2.2.1 66 0 _
      rw [eA 66 0 (by omega)]
    unfold imR at hr ⊢
    rw [e, eA 45 0 (by omega), eA 69 0 (by omega), eA 67 0 (by omega), eA 68 0 (by omega), eI 4 2 (1 + k) (by omega), eI 4 3 (1 + k) (by omega)]
    refine ⟨hr.1, hr.2.imp id (fun q => ⟨q.1, ?_, q.2.2⟩)⟩
    obtain ⟨n', m', c', q1, q2, q3, q4, q5⟩ := q.2.1
    refine ⟨n', m', c', q1, toU _ _ _ _ q2, sU _ _ _ q3, by rw [eI 4 4 (1 + k) (by omega)]; exact q4, fun j hj => ?_⟩
    rw [eA 20 (1 + k) (by omega), eA 21 (1 + k) (by omega)]
    exact q5 j hj
  · exact ⟨vOk_note sv eS h100 c10 h0 (fun j hj => (hk j hj).1), toR_n n8 m4 eS (toU _ _ _ _ st), stR_v n8 eS (sU _ _ _ ss), e4.trans h100.symm, fun j hj => (hk j hj).2⟩
  · obtain ⟨u, x, u20, x20, u1, u2, u3, up⟩ := hpa
    have eP : ∀ j t, t < 80 → paV h2 j t = paV h j t := by
      intro j t ht
      unfold paV
      rw [eS t ht, eA 57 0 (by omega)]
    have eQ : ∀ j t, 80 ≤ t → paV h2 j t = mS h2 t := fun j t ht => if_neg (by omega)
    refine ⟨u, x, u20, x20, by rw [eI 1 2 0 (by decide)]; exact u1, by rw [eI 12 24 0 (by decide)]; exact u2, by rw [eI 1 1 0 (by decide)]; exact u3, fun j hj => ⟨vOk_note (up j hj).1 (eP j) (by rw [eQ j 100 (by omega)]; exact h100) c10 (fun q => h0 q) (fun l hl => ?_), stR_v n8 (eP j) (sU _ _ _ (up j hj).2)⟩⟩
    rw [eQ j (80 + 2 * l) (by omega), eQ j (81 + 2 * l) (by omega)]
    exact (hk l hl).1
theorem note_jII {Q : xH → Nat → Prop} (hQ : qOk Q) {h h2 : xH} {R : Nat} (hR : R ≤ 6) (r1 : h.1 11 5 0 = nI R) (r2 : h.1 12 2 0 = nI R) (hq : Q h R) (hF : ntF h h2) (hj : jI h2 R) : jII Q h2 := by
  obtain ⟨eI, eA, -⟩ := hF
  have eB : ∀ f, ¬ (f = 20 ∨ f = 21 ∨ f = 56) → h2.2.2.2.1 f = h.2.2.2.1 f := fun f hn => funext fun i => eA f i (fun z => hn z.2)
  exact ⟨R, hR, by rw [eI 11 5 0 (by decide)]; exact r1, by rw [eI 12 2 0 (by decide)]; exact r2, hj, hQ h h2 R ⟨fun k i => eI 2 k i (by omega), eB 18 (by decide), eB 48 (by decide), fun j _ => by rw [eB 49 (by decide)], eB 50 (by decide), eB 51 (by decide)⟩ hq⟩
