/-! PURE: rule: how both begin; rule() -/
theorem mcR_fr {h h' : xH} {r : Nat} (e48 : ∀ j, j < 400 * (r + 1) → h'.2.2.2.1 48 0 j = h.2.2.2.1 48 0 j) (e50 : ∀ j, j < 48 * (r + 1) → h'.2.2.2.1 50 0 j = h.2.2.2.1 50 0 j) (e51 : h'.2.2.2.1 51 0 r = h.2.2.2.1 51 0 r) : ∀ {cs : List Cl} {c p : Nat}, mcR h r c p cs → mcR h' r c p cs
  | [], c, p, hm => by
    show h'.2.2.2.1 51 0 r = nI c ∧ c ≤ 12
    rw [e51]; exact hm
  | (ls, none) :: rest, c, p, hm => by
    have hl : c + (rest.length + 1) ≤ 12 := (mcR_len hm).2
    obtain ⟨a1, a2, a3, a4, a5, a6, a7⟩ := hm
    exact ⟨by rw [e50 _ (by omega)]; exact a1, by rw [e50 _ (by omega)]; exact a2, a3, tkA_c (fun j hj => e48 j (by omega)) a4, a5, by rw [e50 _ (by omega)]; exact a6, mcR_fr e48 e50 e51 a7⟩
  | (ls, some l) :: rest, c, p, hm => by
    have hl : c + (rest.length + 1) ≤ 12 := (mcR_len hm).2
    obtain ⟨a1, a2, a3, a4, a5, a6, a7, a8, a9, b1, b2⟩ := hm
    exact ⟨by rw [e50 _ (by omega)]; exact a1, by rw [e50 _ (by omega)]; exact a2, a3, tkA_c (fun j hj => e48 j (by omega)) a4, a5, by rw [e50 _ (by omega)]; exact a6, by rw [e50 _ (by omega)]; exact a7, a8, tkA_c (fun j hj => e48 j (by omega)) a9, b1, mcR_fr e48 e50 e51 b2⟩
theorem fxR_up {h : xH} {R : Nat} (x : fxR h R) : fxR h (R + 1) := by
  obtain ⟨a, b, c, d⟩ := x
  refine ⟨a, b, ?_, d⟩
  rcases c with c | ⟨r, hr, e⟩
  · exact Or.inl c
  · exact Or.inr ⟨r, by omega, e⟩
theorem imR_up {h : xH} {R k : Nat} (x : imR h R k) : imR h (R + 1) k := by
  obtain ⟨a, b⟩ := x
  refine ⟨a, ?_⟩
  rcases b with b | ⟨b1, b2, b3, b4, c, d⟩
  · exact Or.inl b
  · refine Or.inr ⟨b1, b2, b3, b4, ?_, d⟩
    rcases c with c | ⟨r, hr, e⟩
    · exact Or.inl c
    · exact Or.inr ⟨r, by omega, e⟩
/-- the class begins to read -/
def rsC (R : Nat) (a a' : xH) : Prop := (∀ c k i, ¬ (c = 7 ∧ ¬ k = 6) → ¬ (c = 2 ∧ i = R) → ¬ c = 3 → a'.1 c k i = a.1 c k i) ∧ ∀ f i, ¬ (i = 0 ∧ 34 ≤ f ∧ f ≤ 36) → ¬ (f = 18 ∧ i = R) → a'.2.2.2.1 f i = a.2.2.2.1 f i
theorem c_startR {h : xH} {t R : Nat} {B : Nat → Nat} (hc : ctx h t B) : ∃ a, f_RuleReader_readAll (some R) h = f_RuleReader_readAll_l33 1 0 a ∧ tR a t B (rn isSB B t 0) ∧ a.1 7 9 0 = 0 ∧ rsC R h a ∧ a.2.2.1 3 1 0 = some R ∧ a.1 2 2 R = nI 0 ∧ a.1 2 3 R = 0 ∧ a.1 3 2 0 = nI 0 ∧ a.1 3 3 0 = nI 0 := by
  obtain ⟨g0, eg0⟩ : ∃ g0, g0 = xsR h 3 1 0 (some R) := ⟨_, rfl⟩
  obtain ⟨g, eg⟩ : ∃ g, g = xsI (xsI (xsI (xsI g0 2 2 R 0) 2 3 R 0) 3 2 0 0) 3 3 0 0 := ⟨_, rfl⟩
  have gr : g0.2.2.1 3 1 0 = some R := by
    rw [eg0]
    show xw h.2.2.1 3 1 (xu (h.2.2.1 3 1) 0 (some R)) 3 1 0 = _
    rw [xw_s]
    simp [xu]
  have g0I : g0.1 = h.1 := by rw [eg0]; rfl
  have g0A : g0.2.2.2.1 = h.2.2.2.1 := by rw [eg0]; rfl
  have gI : ∀ c k i, ¬ (c = 2 ∧ i = R) → ¬ c = 3 → g.1 c k i = h.1 c k i := fun c k i z z' => by
    rw [eg, rdI_3 (by omega), rdI_3 (by omega), rdI_3 (by omega), rdI_3 (by omega), g0I]
  have gA : g.2.2.2.1 = h.2.2.2.1 := by rw [eg]; exact g0A
  have cg : ctx g t B := ctx_of (gI 7 6 0 (by omega) (by omega)) (by rw [gA]) hc
  obtain ⟨a, ea, ta, fa, wa⟩ := c_rewind cg
  have rk := rew_keep cg ea
  refine ⟨a, ?_, ta, wa, ⟨fun c k i p q r => ?_, fun f i p q => ?_⟩, ?_, ?_, ?_, ?_, ?_⟩
  · have s0 : f_RuleReader_readAll (some R) h = (g0.2.2.1 3 1 0).bind (fun i => (f_Rule_clear i g0).bind (fun h5 => (f_Tape_rewind (xsI (xsI h5 3 2 0 0) 3 3 0 0)).bind (fun h10 => f_RuleReader_readAll_l33 1 0 h10))) := by rw [eg0]; rfl
    rw [s0, gr, Option.bind_some]
    show (f_Tape_rewind (xsI (xsI (xsI (xsI g0 2 2 R 0) 2 3 R 0) 3 2 0 0) 3 3 0 0)).bind (fun h10 => f_RuleReader_readAll_l33 1 0 h10) = _
    rw [← eg, ea, Option.bind_some]
  · rw [fa.1 c k i p]; exact gI c k i q r
  · rw [fa.2 f i p, gA]
  · rw [rk, eg]; exact gr
  · rw [fa.1 2 2 R (by omega), eg, rdI (by omega), rdI (by omega), rdI (by omega), rdI_s]; rfl
  · rw [fa.1 2 3 R (by omega), eg, rdI (by omega), rdI (by omega), rdI_s]
  · rw [fa.1 3 2 0 (by omega), eg, rdI (by omega), rdI_s]; rfl
  · rw [fa.1 3 3 0 (by omega), eg, rdI_s]; rfl
/-- the reference begins to read -/
def rsM (R : Nat) (b b0 : xH) : Prop := (∀ c k i, ¬ (c = 12 ∧ (k = 8 ∨ k = 9 ∨ k = 11 ∨ k = 12 ∨ k = 14)) → b0.1 c k i = b.1 c k i) ∧ (∀ f i, ¬ ((f = 51 ∨ f = 49) ∧ i = 0) → b0.2.2.2.1 f i = b.2.2.2.1 f i) ∧ (∀ j, j ≠ R → b0.2.2.2.1 49 0 j = b.2.2.2.1 49 0 j) ∧ ∀ j, j ≠ R → b0.2.2.2.1 51 0 j = b.2.2.2.1 51 0 j
theorem m_startR {b : xH} {t R : Nat} {B : Nat → Nat} (hm : mtx b t B) (hR : R < 6) (e2 : b.1 12 2 0 = nI R) : ∃ b0, (∀ q, f_M_clauseHere b0 = some q → f_M_rule b = (f_M_readsAll_l35 q.1 q.2).bind (fun q7 => if q7.1 = 0 then some (-2 - q7.2.1 12 9 0, q7.2) else some ((xsI q7.2 12 2 0 (q7.2.1 12 2 0 + 1)).1 12 2 0 - 1, xsI q7.2 12 2 0 (q7.2.1 12 2 0 + 1)))) ∧ mat b0 t B 0 ∧ b0.1 12 9 0 = 0 ∧ b0.1 12 14 0 = nI 0 ∧ b0.1 12 11 0 = nI R ∧ b0.1 12 12 0 = nI 0 ∧ b0.2.2.2.1 49 0 R = nI 0 ∧ b0.2.2.2.1 51 0 R = nI 0 ∧ rsM R b b0 := by
  obtain ⟨g, eg⟩ : ∃ g, g = xsI b 12 11 0 (nI R) := ⟨_, rfl⟩
  obtain ⟨x, ex⟩ : ∃ x, x = xsA g 51 0 (upd (g.2.2.2.1 51 0) R 0) := ⟨_, rfl⟩
  obtain ⟨y, ey⟩ : ∃ y, y = xsA x 49 0 (upd (x.2.2.2.1 49 0) R 0) := ⟨_, rfl⟩
  obtain ⟨b0, eb0⟩ : ∃ b0, b0 = xsI (xsI (xsI (xsI y 12 14 0 0) 12 8 0 0) 12 9 0 0) 12 12 0 0 := ⟨_, rfl⟩
  have kc : (nI R).toNatClampNeg = R := nI_clamp (by omega)
  have g11 : g.1 12 11 0 = nI R := by rw [eg, rdI_s]
  have x11 : x.1 12 11 0 = nI R := by rw [ex]; exact g11
  have s0 : f_M_rule b = (if b.1 12 2 0 = 6 then some (-1, b) else xlet (xsI b 12 11 0 (b.1 12 2 0)) (fun h2 => if xib (h2.1 12 11 0) 6 then xlet (xsA h2 51 0 (upd (h2.2.2.2.1 51 0) (h2.1 12 11 0).toNatClampNeg 0)) (fun h4 => (f_M_readsAll h4).bind (fun q7 => if q7.1 = 0 then some (-2 - q7.2.1 12 9 0, q7.2) else some ((xsI q7.2 12 2 0 (q7.2.1 12 2 0 + 1)).1 12 2 0 - 1, xsI q7.2 12 2 0 (q7.2.1 12 2 0 + 1)))) else none)) := rfl
  rw [e2, if_neg (show ¬ nI R = 6 from fun z => by have := (nI_eq (b := 6) (by omega) (by omega)).mp z; omega), ← eg] at s0
  have s1 : f_M_rule b = (if xib (g.1 12 11 0) 6 then xlet (xsA g 51 0 (upd (g.2.2.2.1 51 0) (g.1 12 11 0).toNatClampNeg 0)) (fun h4 => (f_M_readsAll h4).bind (fun q7 => if q7.1 = 0 then some (-2 - q7.2.1 12 9 0, q7.2) else some ((xsI q7.2 12 2 0 (q7.2.1 12 2 0 + 1)).1 12 2 0 - 1, xsI q7.2 12 2 0 (q7.2.1 12 2 0 + 1)))) else none) := s0
  rw [g11, if_pos (xibN hR (by omega)), kc, ← ex] at s1
  have s2 : f_M_rule b = (f_M_readsAll x).bind (fun q7 => if q7.1 = 0 then some (-2 - q7.2.1 12 9 0, q7.2) else some ((xsI q7.2 12 2 0 (q7.2.1 12 2 0 + 1)).1 12 2 0 - 1, xsI q7.2 12 2 0 (q7.2.1 12 2 0 + 1))) := s1
  have rA : ∀ q, f_M_clauseHere b0 = some q → f_M_readsAll x = f_M_readsAll_l35 q.1 q.2 := fun q eq => by
    have r0 : f_M_readsAll x = (if xib (x.1 12 11 0) 7 then xlet (xsA x 49 0 (upd (x.2.2.2.1 49 0) (x.1 12 11 0).toNatClampNeg 0)) (fun h2 => (f_M_clauseHere (xsI (xsI (xsI (xsI h2 12 14 0 0) 12 8 0 0) 12 9 0 0) 12 12 0 0)).bind (fun q9 => f_M_readsAll_l35 q9.1 q9.2)) else none) := rfl
    rw [x11, if_pos (xibN (show R < 7 by omega) (by omega)), kc, ← ey] at r0
    have r1 : f_M_readsAll x = (f_M_clauseHere (xsI (xsI (xsI (xsI y 12 14 0 0) 12 8 0 0) 12 9 0 0) 12 12 0 0)).bind (fun q9 => f_M_readsAll_l35 q9.1 q9.2) := r0
    rw [r1, ← eb0, eq, Option.bind_some]
  have bI : ∀ c k i, ¬ (c = 12 ∧ (k = 8 ∨ k = 9 ∨ k = 12 ∨ k = 14)) → b0.1 c k i = g.1 c k i := fun c k i z => by
    rw [eb0, rdI (by omega), rdI (by omega), rdI (by omega), rdI (by omega), ey, ex]; rfl
  have bA : ∀ f i, b0.2.2.2.1 f i = y.2.2.2.1 f i := fun f i => by rw [eb0]; rfl
  have gA : g.2.2.2.1 = b.2.2.2.1 := by rw [eg]; rfl
  have y49 : y.2.2.2.1 49 0 = upd (b.2.2.2.1 49 0) R 0 := by rw [ey, rdA_s, ex, rdA_n (by omega), gA]
  have y51 : y.2.2.2.1 51 0 = upd (b.2.2.2.1 51 0) R 0 := by rw [ey, rdA_n (by omega), ex, rdA_s, gA]
  have fr : rsM R b b0 := by
    refine ⟨fun c k i z => ?_, fun f i z => ?_, fun j hj => ?_, fun j hj => ?_⟩
    · rw [bI c k i (by omega), eg, rdI (by omega)]
    · rw [bA, ey, rdA_n (by omega), ex, rdA_n (by omega), gA]
    · rw [bA, y49, pk_un hj]
    · rw [bA, y51, pk_un hj]
  exact ⟨b0, fun q eq => by rw [s2, rA q eq], ⟨mtx_of (fr.1 12 1 0 (by omega)) (fr.2.1 47 0 (by omega)) hm, by rw [eb0, rdI (by omega), rdI (by omega), rdI_s]; rfl, Nat.zero_le _⟩, by rw [eb0, rdI (by omega), rdI_s], by rw [eb0, rdI (by omega), rdI (by omega), rdI (by omega), rdI_s]; rfl, by rw [bI 12 11 0 (by omega)]; exact g11, by rw [eb0, rdI_s]; rfl, by rw [bA, y49, pk_us]; rfl, by rw [bA, y51, pk_us]; rfl, fr⟩
/-- what reading leaves of the reference, from the start of rule() -/
def rtM (R : Nat) (b b' : xH) : Prop := (∀ c k i, ¬ (c = 12 ∧ (k = 1 ∨ (8 ≤ k ∧ k ≤ 14) ∨ k = 16)) → b'.1 c k i = b.1 c k i) ∧ (∀ f i, ¬ ((f = 48 ∨ f = 49 ∨ f = 50 ∨ f = 51 ∨ f = 53) ∧ i = 0) → b'.2.2.2.1 f i = b.2.2.2.1 f i) ∧ (∀ j, j < 400 * R → b'.2.2.2.1 48 0 j = b.2.2.2.1 48 0 j) ∧ (∀ j, j < 48 * R → b'.2.2.2.1 50 0 j = b.2.2.2.1 50 0 j) ∧ ∀ j, j ≠ R → b'.2.2.2.1 51 0 j = b.2.2.2.1 51 0 j
theorem rtM_of {R : Nat} {b b0 b' : xH} (x : rsM R b b0) (y : ruM R b0 b') : rtM R b b' := ⟨fun c k i p => (y.1 c k i (by omega)).trans (x.1 c k i (by omega)), fun f i p => (y.2.1 f i (by omega)).trans (x.2.1 f i (by omega)), fun j hj => by rw [y.2.2.2.1 j hj, x.2.1 48 0 (by omega)], fun j hj => by rw [y.2.2.2.2.1 j hj, x.2.1 50 0 (by omega)], fun j hj => by rw [y.2.2.2.2.2 j hj, x.2.2.2 j hj]⟩
/-- what stays of the store h in h2, rule R apart -/
theorem ru_keep {h h2 : xH} {R n0 m0 c0 : Nat} (hf : fxR h R) (him : ∀ k, k < 4 → imR h R k) (hsc : scR h 0 (mS h) n0 m0 c0) (hpa : paR h n0 m0 c0) (hq : Qr h R) (eI : ∀ c k i, ¬ c = 7 → ¬ (c = 2 ∧ i = R) → ¬ c = 3 → ¬ (c = 12 ∧ (k = 1 ∨ k = 2 ∨ (8 ≤ k ∧ k ≤ 14) ∨ k = 16)) → ¬ (c = 11 ∧ k = 5) → h2.1 c k i = h.1 c k i) (eA : ∀ f i, ¬ (i = 0 ∧ 34 ≤ f ∧ f ≤ 36) → ¬ (f = 18 ∧ i = R) → ¬ ((f = 48 ∨ f = 49 ∨ f = 50 ∨ f = 51 ∨ f = 53) ∧ i = 0) → h2.2.2.2.1 f i = h.2.2.2.1 f i) (e48 : ∀ j, j < 400 * R → h2.2.2.2.1 48 0 j = h.2.2.2.1 48 0 j) (e50 : ∀ j, j < 48 * R → h2.2.2.2.1 50 0 j = h.2.2.2.1 50 0 j) (e51 : ∀ j, j ≠ R → h2.2.2.2.1 51 0 j = h.2.2.2.1 51 0 j) : fxR h2 R ∧ (∀ k, k < 4 → imR h2 R k) ∧ (scR h2 0 (mS h2) n0 m0 c0 ∧ paR h2 n0 m0 c0) ∧ Qr h2 R := by
  refine ⟨fxR_of (eI _ _ _ (by omega) (by omega) (by omega) (by omega) (by omega)) (eI _ _ _ (by omega) (by omega) (by omega) (by omega) (by omega)) (eI _ _ _ (by omega) (by omega) (by omega) (by omega) (by omega)) (eI _ _ _ (by omega) (by omega) (by omega) (by omega) (by omega)) hf, fun j hj => ?_, ⟨?_, ?_⟩, fun r hr => ?_⟩
  · exact imR_of (by rw [eA 45 0 (by omega) (by omega) (by omega)]) (by rw [eA 69 0 (by omega) (by omega) (by omega)]) (by rw [eA 67 0 (by omega) (by omega) (by omega)]) (by rw [eA 68 0 (by omega) (by omega) (by omega)]) (fun t _ => by rw [eA 66 0 (by omega) (by omega) (by omega)]) (fun c z hc => eI c z _ (by omega) (by omega) (by omega) (by omega) (by omega)) (fun f hf => eA f _ (by omega) (by unfold scA at hf; omega) (by omega)) (him j hj)
  · exact scR_of (fun k _ => eI 8 k 0 (by omega) (by omega) (by omega) (by omega) (by omega)) (fun k _ => eI 6 k 0 (by omega) (by omega) (by omega) (by omega) (by omega)) (eI 4 4 0 (by omega) (by omega) (by omega) (by omega) (by omega)) (fun f p q k _ => by rw [eA f 0 (by omega) (by omega) (by omega)]) (fun k _ => by rw [eA 41 0 (by omega) (by omega) (by omega)]) (fun f p q k _ => by rw [eA f 0 (by omega) (by omega) (by omega)]) (fun f p k _ => by rw [eA f 0 (by omega) (by omega) (by omega)]) (fun t _ => by show h2.2.2.2.1 56 0 t = _; rw [eA 56 0 (by omega) (by omega) (by omega)]) hsc
  · exact paR_of (eI 1 1 0 (by omega) (by omega) (by omega) (by omega) (by omega)) (eI 1 2 0 (by omega) (by omega) (by omega) (by omega) (by omega)) (eI 12 24 0 (by omega) (by omega) (by omega) (by omega) (by omega)) (fun k i _ _ => eI 6 k i (by omega) (by omega) (by omega) (by omega) (by omega)) (fun f i _ _ _ _ => eA f i (by omega) (by omega) (by omega)) (eA 57 0 (by omega) (by omega) (by omega)) (eA 56 0 (by omega) (by omega) (by omega)) hpa
  · obtain ⟨cs, c1, c2, c3, c4⟩ := hq r hr
    have e3 : h2.1 2 3 r = h.1 2 3 r := eI 2 3 r (by omega) (by omega) (by omega) (by omega) (by omega)
    exact ⟨cs, mcR_fr (fun j hj => e48 j (by omega)) (fun j hj => e50 j (by omega)) (e51 r (by omega)) c1, ccR_of (eI 2 2 r (by omega) (by omega) (by omega) (by omega) (by omega)) (eA 18 r (by omega) (by omega) (by omega)) c2, by rw [e3]; exact c3, fun z => c4 (by rw [← e3]; exact z)⟩
theorem p_rule : lI_rule (jII Qr) := by
  rintro h ⟨R, hR, r1, r2, hj, hq⟩
  obtain ⟨ht, hf, him, n0, m0, c0, hsc0, hpa⟩ := id hj
  have cl : f_B_rule h = (if h.1 11 5 0 < 0 then some (-1, h) else if h.1 11 5 0 < 6 then (if xib (h.1 11 5 0) 6 then (f_RuleReader_readAll (some (0 + (h.1 11 5 0).toNatClampNeg)) h).bind (fun q6 => if q6.1 = 0 then some ((xsI (xsI q6.2 7 6 0 0) 11 5 0 ((xsI q6.2 7 6 0 0).1 11 5 0 + 1)).1 11 5 0 - 1, xsI (xsI q6.2 7 6 0 0) 11 5 0 ((xsI q6.2 7 6 0 0).1 11 5 0 + 1)) else some (-2 - q6.1, xsI q6.2 7 6 0 0)) else none) else some (-1, h)) := rfl
  rw [r1, if_neg (nI_pos (by omega))] at cl
  by_cases R6 : R = 6
  · rw [if_neg (show ¬ nI R < 6 by rw [R6]; decide)] at cl
    refine ⟨-1, h, h, cl, ?_, R, hR, r1, r2, hj, hq⟩
    show (if h.1 12 2 0 = 6 then some (-1, h) else _) = _
    rw [if_pos (show h.1 12 2 0 = 6 by rw [r2, R6]; rfl)]
  have R5 : R < 6 := by omega
  rw [if_pos (show nI R < 6 from nI_lt (b := 6) R5 (by omega)), if_pos (xibN R5 (by omega)), nI_clamp (by omega), Nat.zero_add] at cl
  obtain ⟨t, t1, t2, t3, t4⟩ := id ht
  obtain ⟨B, eB⟩ : ∃ B : Nat → Nat, B = fun j => bN (h.2.2.2.1 33 0 j) := ⟨_, rfl⟩
  have hc : ctx h t B := ⟨t2, t1, fun j _ => by rw [eB]; exact ⟨rfl, bN_lt⟩⟩
  have hm : ∀ b : xH, b.1 12 1 0 = h.1 12 1 0 → b.2.2.2.1 47 0 = h.2.2.2.1 47 0 → mtx b t B := fun b e1 e2 => ⟨e1.trans t3, t1, fun j hj => by
    rw [e2, eB]
    exact ⟨(t4 j hj).2, by show bN _ = bN _; rw [(t4 j hj).1]⟩⟩
  obtain ⟨a, ea, ta, wa, fa, x31, x22, x23, x32, x33⟩ := c_startR (R := R) hc
  have run : ∀ b : xH, b.1 12 1 0 = h.1 12 1 0 → b.1 12 2 0 = nI R → b.2.2.2.1 47 0 = h.2.2.2.1 47 0 → ∃ f a' b', f_RuleReader_readAll (some R) h = some (f, a') ∧ f_M_rule b = (if f = 0 then some (nI (R + 1) - 1, xsI b' 12 2 0 (nI (R + 1))) else some (-2 - f, b')) ∧ ruC R a a' ∧ rtM R b b' ∧ b'.1 12 1 0 = 0 ∧ (f = 0 → ∃ cs k, clI a' b' R cs k ∧ szc cs + cs.length ≤ 400) := fun b e1 e2 e3 => by
    obtain ⟨b0, y1, y2, y3, y4, y5, y6, y7, y8, y9⟩ := m_startR (R := R) (hm b e1 e3) R5 e2
    have ci : clI a b0 R [] 0 := ⟨⟨x31, R5, x22, y5, y7, x33, y6, by decide, Nat.le_refl _⟩, trivial, trivial, y8, x32, y4, by decide, Or.inr ⟨x23, fun q hq => by (cases hq)⟩⟩
    obtain ⟨f, a', b', q, w1, w2, w3, w4, w5, w6, w7, w8⟩ := lk_allR (R := R) 13 0 (by omega) (by omega) a b0 t (rn isSB B t 0) 0 [] B ⟨ta, 0, y2, rfl⟩ wa y3 ci rfl (Nat.zero_le _)
    have rt := rtM_of y9 w6
    refine ⟨f, a', b', by rw [ea]; exact w1, ?_, w5, rt, w7, w8⟩
    rw [y1 q w2, w3, Option.bind_some]
    by_cases z : f = 0
    · rw [if_pos z, if_neg i1, if_pos z, rdI_s, rt.1 12 2 0 (by omega), e2, nI_1]
    · rw [if_neg z, if_pos rfl, if_neg z, w4]
  obtain ⟨f, a', b1, ra, -, fr, -, -, -⟩ := run h rfl r2 rfl
  rw [ra, Option.bind_some] at cl
  have i8 : ∀ c k i, ¬ c = 7 → ¬ (c = 2 ∧ i = R) → ¬ c = 3 → a'.1 c k i = h.1 c k i := fun c k i p1 p2 p3 => by
    rw [fr.1 c k i (by omega) p2 p3, fa.1 c k i (by omega) p2 p3]
  have a8 : ∀ g i, ¬ (i = 0 ∧ 34 ≤ g ∧ g ≤ 36) → ¬ (g = 18 ∧ i = R) → a'.2.2.2.1 g i = h.2.2.2.1 g i := fun g i p1 p2 => by
    rw [fr.2.1 g i p1 p2, fa.2 g i p1 p2]
  by_cases z : f = 0
  · rw [if_pos z] at cl
    obtain ⟨g4, eg4⟩ : ∃ g4, g4 = xsI (xsI a' 7 6 0 0) 11 5 0 (nI (R + 1)) := ⟨_, rfl⟩
    rw [rdI_s, show (xsI a' 7 6 0 0).1 11 5 0 = nI R by rw [rdI (by omega), i8 11 5 0 (by omega) (by omega) (by omega)]; exact r1, nI_1, ← eg4] at cl
    have g4I : ∀ c k i, ¬ c = 7 → ¬ (c = 11 ∧ k = 5) → g4.1 c k i = a'.1 c k i := fun c k i p1 p2 => by rw [eg4, rdI p2, rdI (by omega)]
    have g4A : ∀ f i, g4.2.2.2.1 f i = a'.2.2.2.1 f i := fun f i => by rw [eg4]; rfl
    obtain ⟨f', a2, b2, ra2, rb2, -, tm, b21, dd⟩ := run g4 (by rw [g4I 12 1 0 (by omega) (by omega)]; exact i8 12 1 0 (by omega) (by omega) (by omega)) (by rw [g4I 12 2 0 (by omega) (by omega), i8 12 2 0 (by omega) (by omega) (by omega)]; exact r2) (by rw [g4A]; exact a8 47 0 (by omega) (by omega))
    rw [ra] at ra2
    obtain ⟨rfl, rfl⟩ : f = f' ∧ a' = a2 := ⟨congrArg Prod.fst (Option.some.inj ra2), congrArg Prod.snd (Option.some.inj ra2)⟩
    obtain ⟨cs, k, ci, l4⟩ := dd z
    rw [if_pos z] at rb2
    obtain ⟨h2, eh2⟩ : ∃ h2, h2 = xsI b2 12 2 0 (nI (R + 1)) := ⟨_, rfl⟩
    rw [← eh2] at rb2
    have h2I : ∀ c k i, ¬ (c = 12 ∧ k = 2) → h2.1 c k i = b2.1 c k i := fun c k i p => by rw [eh2, rdI p]
    have h2A : ∀ f i, h2.2.2.2.1 f i = b2.2.2.2.1 f i := fun f i => by rw [eh2]; rfl
    obtain ⟨k1, k2, ⟨k3, k4⟩, k5⟩ := ru_keep (h2 := h2) hf him hsc0 hpa hq (fun c k i p1 p2 p3 p4 p5 => by rw [h2I c k i (by omega), tm.1 c k i (by omega), g4I c k i p1 p5]; exact i8 c k i p1 p2 p3) (fun f i p1 p2 p3 => by rw [h2A, tm.2.1 f i p3, g4A]; exact a8 f i p1 p2) (fun j hj => by rw [h2A, tm.2.2.1 j hj, g4A, a8 48 0 (by omega) (by omega)]) (fun j hj => by rw [h2A, tm.2.2.2.1 j hj, g4A, a8 50 0 (by omega) (by omega)]) (fun j hj => by rw [h2A, tm.2.2.2.2 j hj, g4A, a8 51 0 (by omega) (by omega)])
    obtain ⟨⟨-, -, z3, -, -, -, -, -, -⟩, i2, i3, i4, -, -, i7, i9⟩ := ci
    have h22 : ∀ k, h2.1 2 k R = a'.1 2 k R := fun k => by rw [h2I 2 k R (by omega), tm.1 2 k R (by omega), g4I 2 k R (by omega) (by omega)]
    have h218 : h2.2.2.2.1 18 R = a'.2.2.2.1 18 R := by rw [h2A, tm.2.1 18 R (by omega), g4A]
    refine ⟨_, g4, h2, cl, rb2, R + 1, by omega, by rw [h2I 11 5 0 (by omega), tm.1 11 5 0 (by omega), eg4, rdI_s], by rw [eh2, rdI_s], ⟨⟨0, by decide, ?_, ?_, fun j hj => absurd hj (by omega)⟩, fxR_up k1, fun j hj => imR_up (k2 j hj), n0, m0, c0, k3, k4⟩, fun r hr => ?_⟩
    · rw [h2I 7 6 0 (by omega), tm.1 7 6 0 (by omega), eg4, rdI (by omega), rdI_s]; rfl
    · rw [h2I 12 1 0 (by omega)]; exact b21.trans nI_0.symm
    · by_cases e : r = R
      · subst e
        refine ⟨cs, mcR_P (by rw [h2A, h2A]; exact i2) (by rw [h2A, Nat.zero_add]; exact i4) (by omega), ccR_P (by rw [h218]; exact i3) (by rw [h22, z3]; congr 1; omega) (by omega), ?_, fun e0 => ?_⟩
        · rw [h22]
          rcases i9 with i9 | i9
          · exact Or.inr i9
          · exact Or.inl i9.1
        · rw [h22] at e0
          rcases i9 with i9 | i9
          · exact absurd (i9.symm.trans e0) i1
          · exact i9.2
      · exact k5 r (by omega)
  · rw [if_neg z] at cl
    obtain ⟨g4, eg4⟩ : ∃ g4, g4 = xsI a' 7 6 0 0 := ⟨_, rfl⟩
    rw [← eg4] at cl
    have g4I : ∀ c k i, ¬ c = 7 → g4.1 c k i = a'.1 c k i := fun c k i p1 => by rw [eg4, rdI (by omega)]
    have g4A : ∀ f i, g4.2.2.2.1 f i = a'.2.2.2.1 f i := fun f i => by rw [eg4]; rfl
    obtain ⟨f', a2, b2, ra2, rb2, -, tm, b21, -⟩ := run g4 (by rw [g4I 12 1 0 (by omega)]; exact i8 12 1 0 (by omega) (by omega) (by omega)) (by rw [g4I 12 2 0 (by omega), i8 12 2 0 (by omega) (by omega) (by omega)]; exact r2) (by rw [g4A]; exact a8 47 0 (by omega) (by omega))
    rw [ra] at ra2
    obtain ⟨rfl, rfl⟩ : f = f' ∧ a' = a2 := ⟨congrArg Prod.fst (Option.some.inj ra2), congrArg Prod.snd (Option.some.inj ra2)⟩
    rw [if_neg z] at rb2
    obtain ⟨k1, k2, ⟨k3, k4⟩, k5⟩ := ru_keep (h2 := b2) hf him hsc0 hpa hq (fun c k i p1 p2 p3 p4 p5 => by rw [tm.1 c k i (by omega), g4I c k i p1]; exact i8 c k i p1 p2 p3) (fun f i p1 p2 p3 => by rw [tm.2.1 f i p3, g4A]; exact a8 f i p1 p2) (fun j hj => by rw [tm.2.2.1 j hj, g4A, a8 48 0 (by omega) (by omega)]) (fun j hj => by rw [tm.2.2.2.1 j hj, g4A, a8 50 0 (by omega) (by omega)]) (fun j hj => by rw [tm.2.2.2.2 j hj, g4A, a8 51 0 (by omega) (by omega)])
    refine ⟨_, g4, b2, cl, rb2, R, hR, ?_, ?_, ⟨⟨0, by decide, ?_, b21.trans nI_0.symm, fun j hj => absurd hj (by omega)⟩, k1, k2, n0, m0, c0, k3, k4⟩, k5⟩
    · rw [tm.1 11 5 0 (by omega), g4I 11 5 0 (by omega), i8 11 5 0 (by omega) (by omega) (by omega)]; exact r1
    · rw [tm.1 12 2 0 (by omega), g4I 12 2 0 (by omega), i8 12 2 0 (by omega) (by omega) (by omega)]; exact r2
    · rw [tm.1 7 6 0 (by omega), eg4, rdI_s]; rfl
