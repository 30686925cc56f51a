/-! PURE: each part of the invariant by what it reads -/
theorem tpR_of {h h2 : xH} (e1 : h2.1 7 6 0 = h.1 7 6 0) (e2 : h2.1 12 1 0 = h.1 12 1 0) (a1 : h2.2.2.2.1 33 0 = h.2.2.2.1 33 0) (a2 : h2.2.2.2.1 47 0 = h.2.2.2.1 47 0) (hr : tpR h) : tpR h2 := by
  obtain ⟨t, t1, t2, t3, t4⟩ := hr
  refine ⟨t, t1, e1.trans t2, e2.trans t3, fun j hj => ?_⟩
  rw [a1, a2]
  exact t4 j hj
theorem fxR_of {h h2 : xH} {R : Nat} (e1 : h2.1 4 2 0 = h.1 4 2 0) (e2 : h2.1 4 3 0 = h.1 4 3 0) (e3 : h2.1 12 21 0 = h.1 12 21 0) (e4 : h2.1 12 22 0 = h.1 12 22 0) (hr : fxR h R) : fxR h2 R := by
  unfold fxR at hr ⊢
  rw [e1, e2, e3, e4]
  exact hr
theorem imR_of {h h2 : xH} {R k : Nat} (e45 : h2.2.2.2.1 45 0 k = h.2.2.2.1 45 0 k) (e69 : h2.2.2.2.1 69 0 k = h.2.2.2.1 69 0 k) (e67 : h2.2.2.2.1 67 0 k = h.2.2.2.1 67 0 k) (e68 : h2.2.2.2.1 68 0 k = h.2.2.2.1 68 0 k) (e66 : ∀ j, j ≤ 100 → h2.2.2.2.1 66 0 (101 * k + j) = h.2.2.2.1 66 0 (101 * k + j)) (eI : ∀ c z, c = 4 ∨ c = 6 ∨ c = 8 → h2.1 c z (1 + k) = h.1 c z (1 + k)) (eA : ∀ f, scA f (1 + k) (1 + k) → h2.2.2.2.1 f (1 + k) = h.2.2.2.1 f (1 + k)) (hr : imR h R k) : imR h2 R k := by
  unfold imR at hr ⊢
  rw [e45, e69, e67, e68, eI 4 2 (by omega), eI 4 3 (by omega)]
  refine ⟨hr.1, hr.2.imp id (fun q => ⟨q.1, ?_, q.2.2⟩)⟩
  obtain ⟨n, m, c, q⟩ := q.2.1
  refine ⟨n, m, c, scR_of (fun z _ => eI 8 z (by omega)) (fun z _ => eI 6 z (by omega)) (eI 4 4 (by omega)) (fun f _ _ z _ => by rw [eA f (by unfold scA; omega)]) (fun z _ => by rw [eA 41 (by unfold scA; omega)]) (fun f _ _ z _ => by rw [eA f (by unfold scA; omega)]) (fun f _ z _ => by rw [eA f (by unfold scA; omega)]) (fun t ht => e66 t ht) q⟩
theorem paR_of {h h2 : xH} {n m c : Nat} (e1 : h2.1 1 1 0 = h.1 1 1 0) (e2 : h2.1 1 2 0 = h.1 1 2 0) (e3 : h2.1 12 24 0 = h.1 12 24 0) (eI : ∀ k i, 5 ≤ i → i < 25 → h2.1 6 k i = h.1 6 k i) (eA : ∀ f i, 29 ≤ f → f ≤ 32 → 5 ≤ i → i < 25 → h2.2.2.2.1 f i = h.2.2.2.1 f i) (e57 : h2.2.2.2.1 57 0 = h.2.2.2.1 57 0) (e56 : h2.2.2.2.1 56 0 = h.2.2.2.1 56 0) (hr : paR h n m c) : paR h2 n m c := by
  obtain ⟨u, x, a, b, d, e, f, g⟩ := hr
  have ev : ∀ j, paV h2 j = paV h j := by
    intro j
    funext t
    show (if 10 ≤ t ∧ t < 44 then h2.2.2.2.1 57 0 (34 * j + (t - 10)) else h2.2.2.2.1 56 0 t) = (if 10 ≤ t ∧ t < 44 then h.2.2.2.1 57 0 (34 * j + (t - 10)) else h.2.2.2.1 56 0 t)
    rw [e57, e56]
  refine ⟨u, x, a, b, e2.trans d, e3.trans e, e1.trans f, fun j hj => ?_⟩
  rw [ev j]
  exact ⟨(g j hj).1, stR_of (fun k _ => eI k _ (by omega) (by omega)) (fun z h1 h2 k _ => by rw [eA z _ h1 h2 (by omega) (by omega)]) (g j hj).2⟩
/-- all that the invariant reads -/
def jF (c k i : Nat) : Prop := c = 1 ∨ c = 2 ∨ c = 4 ∨ (c = 6 ∧ i < 25) ∨ (c = 8 ∧ i < 5) ∨ (c = 7 ∧ k = 6) ∨ (c = 11 ∧ k = 5) ∨ (c = 12 ∧ (k = 1 ∨ k = 2 ∨ k = 21 ∨ k = 22 ∨ k = 24))
def jG (f i : Nat) : Prop := f = 18 ∨ f = 20 ∨ f = 21 ∨ (29 ≤ f ∧ f ≤ 32 ∧ i < 25) ∨ f = 33 ∨ (37 ≤ f ∧ f ≤ 41 ∧ i < 5) ∨ f = 45 ∨ (47 ≤ f ∧ f ≤ 51) ∨ f = 56 ∨ f = 57 ∨ (66 ≤ f ∧ f ≤ 69)
def sameJ (h h2 : xH) : Prop := (∀ c k i, jF c k i → h2.1 c k i = h.1 c k i) ∧ ∀ f i, jG f i → h2.2.2.2.1 f i = h.2.2.2.1 f i
theorem sameJ_refl (h : xH) : sameJ h h := ⟨fun _ _ _ _ => rfl, fun _ _ _ => rfl⟩
theorem sameJ_trans {h h1 h2 : xH} (a : sameJ h h1) (b : sameJ h1 h2) : sameJ h h2 := ⟨fun c k i q => (b.1 c k i q).trans (a.1 c k i q), fun f i q => (b.2 f i q).trans (a.2 f i q)⟩
theorem sameJ_jII {Q : xH → Nat → Prop} (hQ : qOk Q) {h h2 : xH} (hs : sameJ h h2) (hr : jII Q h) : jII Q h2 := by
  obtain ⟨R, hR, r1, r2, ⟨ht, hf, him, n, m, c, hsc, hpa⟩, hq⟩ := hr
  obtain ⟨eI, eA⟩ := hs
  refine ⟨R, hR, (eI 11 5 0 (by unfold jF; omega)).trans r1, (eI 12 2 0 (by unfold jF; omega)).trans r2, ⟨tpR_of (eI _ _ _ (by unfold jF; omega)) (eI _ _ _ (by unfold jF; omega)) (eA _ _ (by unfold jG; omega)) (eA _ _ (by unfold jG; omega)) ht, fxR_of (eI _ _ _ (by unfold jF; omega)) (eI _ _ _ (by unfold jF; omega)) (eI _ _ _ (by unfold jF; omega)) (eI _ _ _ (by unfold jF; omega)) hf, fun k hk => imR_of (by rw [eA 45 0 (by unfold jG; omega)]) (by rw [eA 69 0 (by unfold jG; omega)]) (by rw [eA 67 0 (by unfold jG; omega)]) (by rw [eA 68 0 (by unfold jG; omega)]) (fun j _ => by rw [eA 66 0 (by unfold jG; omega)]) (fun c z hc => eI c z _ (by unfold jF; omega)) (fun f hf => eA f _ (by unfold scA at hf; unfold jG; omega)) (him k hk), n, m, c, scR_of (fun z _ => eI 8 z 0 (by unfold jF; omega)) (fun z _ => eI 6 z 0 (by unfold jF; omega)) (eI 4 4 0 (by unfold jF; omega)) (fun f _ _ z _ => by rw [eA f 0 (by unfold jG; omega)]) (fun z _ => by rw [eA 41 0 (by unfold jG; omega)]) (fun f _ _ z _ => by rw [eA f 0 (by unfold jG; omega)]) (fun f _ z _ => by rw [eA f 0 (by unfold jG; omega)]) (fun t _ => by show h2.2.2.2.1 56 0 t = h.2.2.2.1 56 0 t; rw [eA 56 0 (by unfold jG; omega)]) hsc, paR_of (eI _ _ _ (by unfold jF; omega)) (eI _ _ _ (by unfold jF; omega)) (eI _ _ _ (by unfold jF; omega)) (fun k i _ _ => eI _ _ _ (by unfold jF; omega)) (fun f i _ _ _ _ => eA _ _ (by unfold jG; omega)) (eA _ _ (by unfold jG; omega)) (eA _ _ (by unfold jG; omega)) hpa⟩, hQ h h2 R ⟨fun k i => eI 2 k i (by unfold jF; omega), funext fun i => eA 18 i (by unfold jG; omega), funext fun i => eA 48 i (by unfold jG; omega), fun j _ => by rw [eA 49 0 (by unfold jG; omega)], funext fun i => eA 50 i (by unfold jG; omega), funext fun i => eA 51 i (by unfold jG; omega)⟩ hq⟩
