/-! PURE: acts. What an act of the class leaves, what an act of the reference leaves, the invariant behind both -/
def acC (h h1 : xH) : Prop := (∀ c k i, ¬ c = 6 → ¬ c = 1 → h1.1 c k i = h.1 c k i) ∧ (∀ k i, 1 ≤ i → i < 5 → h1.1 6 k i = h.1 6 k i) ∧ ∀ f i, ¬ (29 ≤ f ∧ f ≤ 32 ∧ (i = 0 ∨ 5 ≤ i)) → h1.2.2.2.1 f i = h.2.2.2.1 f i
def acM (h1 h2 : xH) : Prop := (∀ c k i, ¬ (c = 12 ∧ k = 24) → h2.1 c k i = h1.1 c k i) ∧ ∀ f i, ¬ f = 57 → ¬ f = 56 → h2.2.2.2.1 f i = h1.2.2.2.1 f i
theorem toR_v {h : xH} {i n m : Nat} {V W : Nat → Int32} (h8 : n ≤ 8) (m4 : m ≤ 4) (hV : ∀ t, ¬ (10 ≤ t ∧ t < 44) → W t = V t) (hr : toR h i V n m) : toR h i W n m := by
  obtain ⟨a, b, c, d, e, f, g⟩ := hr
  refine ⟨by rw [hV 0 (by omega)]; exact a, by rw [hV 1 (by omega)]; exact b, by rw [hV 2 (by omega)]; exact c, by rw [hV 3 (by omega)]; exact d, by rw [hV 4 (by omega)]; exact e, fun k hk => ?_, fun k hk => by rw [hV (60 + k) (by omega)]; exact g.1 k hk, g.2⟩
  rw [hV (64 + k) (by omega), hV (44 + k) (by omega), hV (52 + k) (by omega), hV (72 + k) (by omega)]
  exact f k hk
theorem act_jI {h h1 h2 : xH} {R n m c u' x' : Nat} {V' : Nat → Int32} {PA : Nat → Nat → Int32} (ht : tpR h) (hf : fxR h R) (him : ∀ k, k < 4 → imR h R k) (hsc : scR h 0 (mS h) n m c) (hv : vOk V' n m c) (hV : ∀ t, ¬ (10 ≤ t ∧ t < 44) → V' t = mS h t) (hC : acC h h1) (hst : stR h1 0 V' n) (hpa : paC h1 n u' x' PA) (hM : acM h1 h2) (hS : mS h2 = V') (h24 : h2.1 12 24 0 = nI u') (hpv : ∀ j, j < u' → paV h2 j = PA j) (hpo : ∀ j, j < u' → vOk (PA j) n m c) : jI h2 R := by
  obtain ⟨C1, C2, C3⟩ := hC
  obtain ⟨M1, M2⟩ := hM
  have eI : ∀ c k i, ¬ c = 6 → ¬ c = 1 → ¬ (c = 12 ∧ k = 24) → h2.1 c k i = h.1 c k i := fun c k i a b d => (M1 c k i d).trans (C1 c k i a b)
  have eA : ∀ f i, ¬ f = 57 → ¬ f = 56 → ¬ (29 ≤ f ∧ f ≤ 32 ∧ (i = 0 ∨ 5 ≤ i)) → h2.2.2.2.1 f i = h.2.2.2.1 f i := fun f i a b d => (M2 f i a b).trans (C3 f i d)
  obtain ⟨sv, st, ss, sn, sk⟩ := hsc
  obtain ⟨-, -, -, -, v3, n8, v4, m4, -, -, -, -, vc, c10, -⟩ := id sv
  have up : ∀ i W, stR h1 i W n → stR h2 i W n := fun i W hr => stR_of (fun k _ => M1 6 k i (by omega)) (fun f a b k _ => by rw [M2 f i (by omega) (by omega)]) hr
  have toU : ∀ i n m W, toR h i W n m → toR h2 i W n m := fun i n m W hr => toR_of (fun k _ => eI 8 k i (by decide) (by decide) (by omega)) (fun f a b k _ => by rw [eA f i (by omega) (by omega) (by omega)]) (fun k _ => by rw [eA 41 i (by decide) (by decide) (by omega)]) hr
  refine ⟨?_, ?_, fun k hk => ?_, n, m, c, ?_, ?_⟩
  · obtain ⟨t, t1, t2, t3, t4⟩ := ht
    refine ⟨t, t1, by rw [eI 7 6 0 (by decide) (by decide) (by decide)]; exact t2, by rw [eI 12 1 0 (by decide) (by decide) (by decide)]; exact t3, fun j hj => ?_⟩
    rw [eA 33 0 (by decide) (by decide) (by omega), eA 47 0 (by decide) (by decide) (by omega)]
    exact t4 j hj
  · unfold fxR
    rw [eI 4 2 0 (by decide) (by decide) (by decide), eI 4 3 0 (by decide) (by decide) (by decide), eI 12 21 0 (by decide) (by decide) (by decide), eI 12 22 0 (by decide) (by decide) (by decide)]
    exact hf
  · have hr := him k hk
    have e : imV h2 k = imV h k := by
      funext j
      show h2.2.2.2.1 66 0 _ = h.2.2.2.1 66 0 _
      rw [eA 66 0 (by decide) (by decide) (by omega)]
    unfold imR at hr ⊢
    rw [e, eA 45 0 (by decide) (by decide) (by omega), eA 69 0 (by decide) (by decide) (by omega), eA 67 0 (by decide) (by decide) (by omega), eA 68 0 (by decide) (by decide) (by omega), eI 4 2 (1 + k) (by decide) (by decide) (by decide), eI 4 3 (1 + k) (by decide) (by decide) (by decide)]
    refine ⟨hr.1, hr.2.imp id (fun q => ⟨q.1, ?_, q.2.2⟩)⟩
    obtain ⟨n', m', c', q1, q2, q3, q4, q5⟩ := q.2.1
    refine ⟨n', m', c', q1, toU _ _ _ _ q2, stR_of (fun z _ => (M1 6 z (1 + k) (by omega)).trans (C2 z (1 + k) (by omega) (by omega))) (fun f a b z _ => by rw [eA f (1 + k) (by omega) (by omega) (by omega)]) q3, by rw [eI 4 4 (1 + k) (by decide) (by decide) (by decide)]; exact q4, fun j hj => ?_⟩
    rw [eA 20 (1 + k) (by decide) (by decide) (by omega), eA 21 (1 + k) (by decide) (by decide) (by omega)]
    exact q5 j hj
  · rw [hS]
    refine ⟨hv, toR_v n8 m4 hV (toU _ _ _ _ st), up 0 V' hst, by rw [eI 4 4 0 (by decide) (by decide) (by decide), hV 100 (by omega)]; exact sn, fun j hj => ?_⟩
    rw [eA 20 0 (by decide) (by decide) (by omega), eA 21 0 (by decide) (by decide) (by omega), hV (80 + 2 * j) (by omega), hV (81 + 2 * j) (by omega)]
    exact sk j hj
  · obtain ⟨u20, x20, p2, p1, pj⟩ := hpa
    refine ⟨u', x', u20, x20, by rw [M1 1 2 0 (by decide)]; exact p2, h24, by rw [M1 1 1 0 (by decide)]; exact p1, fun j hj => ?_⟩
    rw [hpv j hj]
    exact ⟨hpo j hj, up _ _ (pj j hj)⟩
theorem act_jII {Q : xH → Nat → Prop} (hQ : qOk Q) {h h1 h2 : xH} {R : Nat} (hR : R ≤ 6) (r1 : h.1 11 5 0 = nI R) (r2 : h.1 12 2 0 = nI R) (hq : Q h R) (hC : acC h h1) (hM : acM h1 h2) (hj : jI h2 R) : jII Q h2 := by
  obtain ⟨C1, C2, C3⟩ := hC
  obtain ⟨M1, M2⟩ := hM
  have eI : ∀ c k i, ¬ c = 6 → ¬ c = 1 → ¬ (c = 12 ∧ k = 24) → h2.1 c k i = h.1 c k i := fun c k i a b d => (M1 c k i d).trans (C1 c k i a b)
  have eA : ∀ f, ¬ f = 57 → ¬ f = 56 → ¬ (29 ≤ f ∧ f ≤ 32) → h2.2.2.2.1 f = h.2.2.2.1 f := fun f a b d => funext fun i => (M2 f i a b).trans (C3 f i (by omega))
  refine ⟨R, hR, by rw [eI 11 5 0 (by decide) (by decide) (by decide)]; exact r1, by rw [eI 12 2 0 (by decide) (by decide) (by decide)]; exact r2, hj, hQ h h2 R ⟨fun k i => eI 2 k i (by decide) (by decide) (by omega), eA 18 (by decide) (by decide) (by omega), eA 48 (by decide) (by decide) (by omega), fun j _ => by rw [eA 49 (by decide) (by decide) (by omega)], eA 50 (by decide) (by decide) (by omega), eA 51 (by decide) (by decide) (by omega)⟩ hq⟩
/-- what is kept of an act is in order -/
theorem paAdd_ok {u n m c : Nat} {pa : Nat → Nat → Int32} {V : Nat → Int32} (u20 : u ≤ 20) (hv : vOk V n m c) (hp : ∀ j, j < u → vOk (pa j) n m c) : ∀ j, j < min 20 (u + 1) → vOk (paAdd u pa V j) n m c := by
  intro j hj
  unfold paAdd
  by_cases hu : u < 20
  · rw [if_pos hu]
    by_cases hju : j < u
    · rw [if_pos hju]; exact hp j hju
    · rw [if_neg hju]; exact hv
  · rw [if_neg hu]
    by_cases hj9 : j < 19
    · rw [if_pos hj9]; exact hp (j + 1) (by omega)
    · rw [if_neg hj9]; exact hv
