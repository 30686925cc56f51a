/-! PURE: the class's tape stands at a piece -/
def nbB (B : Nat → Nat) (t : Nat) : Nat → Nat
  | 0 => rn isSB B t 0
  | k + 1 => rn isSB B t (enB B t (nbB B t k))
def plB (B : Nat → Nat) (t : Nat) : Nat → Nat
  | 0 => 0
  | k + 1 => enB B t (nbB B t k)
theorem nb_pl {B : Nat → Nat} {t : Nat} : ∀ k, nbB B t k = rn isSB B t (plB B t k)
  | 0 => rfl
  | _ + 1 => rfl
theorem pl_ge {B : Nat → Nat} {t : Nat} : ∀ k, k ≤ plB B t k
  | 0 => Nat.le_refl _
  | k + 1 => by
    have h1 := pl_ge (B := B) (t := t) k
    have h2 : plB B t k ≤ nbB B t k := by rw [nb_pl]; exact rn_ge _
    have h3 := enB_gt (B := B) (t := t) (p := nbB B t k)
    show k + 1 ≤ enB B t (nbB B t k)
    omega
/-- the pieces that are cut -/
def pcT (h : xH) (t : Nat) (B : Nat → Nat) (np : Nat) : Prop := ∀ k, k < np → h.2.2.2.1 34 0 k = kdB B t (nbB B t k) ∧ h.2.2.2.1 35 0 k = nI (nbB B t k) ∧ vlR B t (nbB B t k) (h.2.2.2.1 36 0 k)
/-- what reading a tape may change of it -/
def tpF (h h' : xH) : Prop := (∀ c k i, ¬ (c = 7 ∧ ¬ k = 6) → h'.1 c k i = h.1 c k i) ∧ (∀ f i, ¬ (i = 0 ∧ 34 ≤ f ∧ f ≤ 36) → h'.2.2.2.1 f i = h.2.2.2.1 f i)
theorem tpF_refl (h : xH) : tpF h h := ⟨fun _ _ _ _ => rfl, fun _ _ _ => rfl⟩
theorem tpF_t {h h1 h2 : xH} (a : tpF h h1) (b : tpF h1 h2) : tpF h h2 := ⟨fun c k i q => (b.1 c k i q).trans (a.1 c k i q), fun f i q => (b.2 f i q).trans (a.2 f i q)⟩
theorem c_addPiece {h : xH} {np : Nat} {k b v : Int32} (hn : h.1 7 4 0 = nI np) (h4 : np ≤ 400) : ∃ h2, f_Tape_addPiece k b v h = some h2 ∧ h2.1 7 4 0 = nI (np + 1) ∧ h2.2.2.2.1 34 0 = upd (h.2.2.2.1 34 0) np k ∧ h2.2.2.2.1 35 0 = upd (h.2.2.2.1 35 0) np b ∧ h2.2.2.2.1 36 0 = upd (h.2.2.2.1 36 0) np v ∧ (∀ c k i, ¬ (c = 7 ∧ k = 4) → h2.1 c k i = h.1 c k i) ∧ ∀ f i, ¬ (i = 0 ∧ 34 ≤ f ∧ f ≤ 36) → h2.2.2.2.1 f i = h.2.2.2.1 f i := by
  have x : xib (nI np) 401 := xibN (by omega) (by decide)
  have cn : (nI np).toNatClampNeg = np := nI_clamp (by omega)
  have s0 : f_Tape_addPiece k b v h = (if h.1 7 4 0 < 0 then some h else if (400 : Int32) < h.1 7 4 0 then some h else if xib (h.1 7 4 0) 401 then (if xib (h.1 7 4 0) 401 then (if xib (h.1 7 4 0) 401 then some (xsI (xsA (xsA (xsA h 34 0 (upd (h.2.2.2.1 34 0) (h.1 7 4 0).toNatClampNeg k)) 35 0 (upd ((xsA h 34 0 (upd (h.2.2.2.1 34 0) (h.1 7 4 0).toNatClampNeg k)).2.2.2.1 35 0) (h.1 7 4 0).toNatClampNeg b)) 36 0 (upd ((xsA (xsA h 34 0 (upd (h.2.2.2.1 34 0) (h.1 7 4 0).toNatClampNeg k)) 35 0 (upd ((xsA h 34 0 (upd (h.2.2.2.1 34 0) (h.1 7 4 0).toNatClampNeg k)).2.2.2.1 35 0) (h.1 7 4 0).toNatClampNeg b)).2.2.2.1 36 0) (h.1 7 4 0).toNatClampNeg v)) 7 4 0 (h.1 7 4 0 + 1)) else none) else none) else none) := rfl
  rw [hn, if_neg (nI_pos (by omega)), if_neg (show ¬ (400 : Int32) < nI np from nI_nlt (b := np) (a := 400) h4 (by decide)), if_pos x, if_pos x, if_pos x, cn, nI_1] at s0
  have e35 : (xsA h 34 0 (upd (h.2.2.2.1 34 0) np k)).2.2.2.1 35 0 = h.2.2.2.1 35 0 := rdA_n (by decide)
  rw [e35] at s0
  have e36 : (xsA (xsA h 34 0 (upd (h.2.2.2.1 34 0) np k)) 35 0 (upd (h.2.2.2.1 35 0) np b)).2.2.2.1 36 0 = h.2.2.2.1 36 0 := by rw [rdA_n (by decide), rdA_n (by decide)]
  rw [e36] at s0
  refine ⟨_, s0, rdI_s, ?_, ?_, ?_, fun c k' i q => by rw [rdI q]; rfl, fun f i q => ?_⟩
  · show (xsA (xsA (xsA h 34 0 _) 35 0 _) 36 0 _).2.2.2.1 34 0 = _
    rw [rdA_n (by decide), rdA_n (by decide), rdA_s]
  · show (xsA (xsA (xsA h 34 0 _) 35 0 _) 36 0 _).2.2.2.1 35 0 = _
    rw [rdA_n (by decide), rdA_s]
  · show (xsA (xsA (xsA h 34 0 _) 35 0 _) 36 0 _).2.2.2.1 36 0 = _
    rw [rdA_s]
  · show (xsA (xsA (xsA h 34 0 _) 35 0 _) 36 0 _).2.2.2.1 f i = _
    rw [rdA_n (by omega), rdA_n (by omega), rdA_n (by omega)]
/-- the class's tape stands at the piece that begins at p -/
def tR (h : xH) (t : Nat) (B : Nat → Nat) (p : Nat) : Prop := ctx h t B ∧ ∃ a np, h.1 7 5 0 = nI a ∧ h.1 7 4 0 = nI np ∧ a < np ∧ np ≤ 401 ∧ nbB B t a = p ∧ nbB B t (np - 1) = t ∧ (∀ k, k + 1 < np → nbB B t k < t) ∧ pcT h t B np ∧ h.1 7 7 0 = kdB B t p ∧ vlR B t p (h.1 7 8 0)
def nxB (B : Nat → Nat) (t p : Nat) : Nat := if p < t then rn isSB B t (enB B t p) else p
theorem tR_le {h : xH} {t p : Nat} {B : Nat → Nat} (ht : tR h t B p) : p ≤ t := by
  obtain ⟨hc, a, np, -, -, a3, -, rfl, a6, a7, -⟩ := ht
  by_cases z : a + 1 < np
  · exact Nat.le_of_lt (a7 a z)
  · rw [show np - 1 = a by omega] at a6
    omega
theorem c_goOnT {h : xH} {t p : Nat} {B : Nat → Nat} (ht : tR h t B p) : ∃ h', f_Tape_goOn h = some h' ∧ tR h' t B (nxB B t p) ∧ tpF h h' ∧ h'.1 7 9 0 = h.1 7 9 0 := by
  obtain ⟨hc, a, np, a1, a2, a3, a4, a5, a6, a7, a8, a9, a10⟩ := id ht
  have s0 : f_Tape_goOn h = (if h.1 7 5 0 + 1 < 0 then some h else if h.1 7 4 0 ≤ h.1 7 5 0 + 1 then some h else if (400 : Int32) ≤ h.1 7 5 0 then some h else xlet (xsI h 7 5 0 (h.1 7 5 0 + 1)) (fun h4 => if xib (h4.1 7 5 0) 401 then xlet (xsI h4 7 7 0 (h4.2.2.2.1 34 0 (h4.1 7 5 0).toNatClampNeg)) (fun h6 => if xib (h6.1 7 5 0) 401 then some (xsI h6 7 8 0 (h6.2.2.2.1 36 0 (h6.1 7 5 0).toNatClampNeg)) else none) else none)) := rfl
  rw [a1, a2, nI_1, if_neg (nI_pos (by omega))] at s0
  by_cases z : a + 1 < np
  · have pt : p < t := by rw [← a5]; exact a7 a z
    have nx : nxB B t p = nbB B t (a + 1) := by
      unfold nxB
      rw [if_pos pt, ← a5]
      rfl
    have x : xib (nI (a + 1)) 401 := xibN (by omega) (by decide)
    have cn : (nI (a + 1)).toNatClampNeg = a + 1 := nI_clamp (by omega)
    rw [if_neg (nI_ge z (by omega)), if_neg (show ¬ (400 : Int32) ≤ nI a from nI_ge (b := 400) (by omega) (by decide)), xlet_e, show (xsI h 7 5 0 (nI (a + 1))).1 7 5 0 = nI (a + 1) from rdI_s, if_pos x, cn, xlet_e] at s0
    obtain ⟨g, eg⟩ : ∃ g, g = xsI (xsI h 7 5 0 (nI (a + 1))) 7 7 0 ((xsI h 7 5 0 (nI (a + 1))).2.2.2.1 34 0 (a + 1)) := ⟨_, rfl⟩
    have g5 : g.1 7 5 0 = nI (a + 1) := by rw [eg, rdI (by decide), rdI_s]
    rw [← eg, g5, if_pos x, cn] at s0
    have gA : g.2.2.2.1 = h.2.2.2.1 := by rw [eg]; rfl
    obtain ⟨b1, b2, b3⟩ := a8 (a + 1) z
    refine ⟨_, s0, ⟨ctx_of (h := h) (by rw [rdI (by decide), eg, rdI (by decide), rdI (by decide)]) (by show g.2.2.2.1 33 0 = _; rw [gA]) hc, a + 1, np, by rw [rdI (by decide)]; exact g5, by rw [rdI (by decide), eg, rdI (by decide), rdI (by decide)]; exact a2, z, a4, nx.symm, a6, a7, fun k hk => by show g.2.2.2.1 34 0 k = _ ∧ g.2.2.2.1 35 0 k = _ ∧ vlR B t _ (g.2.2.2.1 36 0 k); rw [gA]; exact a8 k hk, ?_, ?_⟩, ⟨fun c k i q => by rw [rdI (by omega), eg, rdI (by omega), rdI (by omega)], fun f i q => by show g.2.2.2.1 f i = _; rw [gA]⟩, by rw [rdI (by decide), eg, rdI (by decide), rdI (by decide)]⟩
    · rw [rdI (by decide), eg, rdI_s, nx]
      exact b1
    · rw [rdI_s, gA, nx]
      exact b3
  · have pt : p = t := by
      rw [show np - 1 = a by omega] at a6
      omega
    have nx : nxB B t p = p := by
      unfold nxB
      rw [if_neg (by omega)]
    refine ⟨h, by rw [s0, if_pos (nI_le (by omega) (by omega))], by rw [nx]; exact ht, tpF_refl h, rfl⟩
theorem c_failT {h : xH} {t p w : Nat} {B : Nat → Nat} (ht : tR h t B p) : ∃ h', f_Tape_fail (nI w) h = some h' ∧ tR h' t B p ∧ tpF h h' ∧ h'.1 7 9 0 = (if h.1 7 9 0 = 0 then nI (1 + 8 * p + w) else h.1 7 9 0) ∧ (∀ c k i, ¬ (c = 7 ∧ k = 9) → h'.1 c k i = h.1 c k i) ∧ h'.2 = h.2 := by
  obtain ⟨hc, a, np, a1, a2, a3, a4, a5, a6, a7, a8, a9, a10⟩ := id ht
  have s0 : f_Tape_fail (nI w) h = (if h.1 7 9 0 = 0 then (if h.1 7 5 0 < 0 then some h else if (400 : Int32) < h.1 7 5 0 then some h else if xib (h.1 7 5 0) 401 then some (xsI h 7 9 0 ((1 + (8 : Int32) * h.2.2.2.1 35 0 (h.1 7 5 0).toNatClampNeg) + nI w)) else none) else some h) := rfl
  by_cases z : h.1 7 9 0 = 0
  · rw [if_pos z, a1, if_neg (nI_pos (by omega)), if_neg (show ¬ (400 : Int32) < nI a from nI_nlt (b := a) (a := 400) (by omega) (by decide)), if_pos (xibN (by omega) (by decide)), nI_clamp (by omega), (a8 a a3).2.1, a5] at s0
    have ev : (1 + (8 : Int32) * nI p) + nI w = nI (1 + 8 * p + w) := by
      rw [show (8 : Int32) * nI p = nI (8 * p) from pk_mul 8 p, show (1 : Int32) = nI 1 from rfl, nI_add, nI_add]
    rw [ev] at s0
    refine ⟨_, s0, ⟨ctx_of (h := h) (rdI (by decide)) rfl hc, a, np, by rw [rdI (by decide)]; exact a1, by rw [rdI (by decide)]; exact a2, a3, a4, a5, a6, a7, a8, by rw [rdI (by decide)]; exact a9, by rw [rdI (by decide)]; exact a10⟩, ⟨fun c k i q => rdI (by omega), fun _ _ _ => rfl⟩, by rw [rdI_s, if_pos z], fun c k i q => rdI q, rfl⟩
  · rw [if_neg z] at s0
    exact ⟨h, s0, ht, tpF_refl h, by rw [if_neg z], fun _ _ _ _ => rfl, rfl⟩
theorem c_rewind {h : xH} {t : Nat} {B : Nat → Nat} (hc : ctx h t B) : ∃ h', f_Tape_rewind h = some h' ∧ tR h' t B (rn isSB B t 0) ∧ tpF h h' ∧ h'.1 7 9 0 = 0 := by
  have t4 := hc.2.1
  obtain ⟨g0, eg0⟩ : ∃ g0, g0 = xsI (xsI h 7 9 0 0) 7 4 0 0 := ⟨_, rfl⟩
  have fin : ∀ (g : xH) (np : Nat), ctx g t B → 0 < np → np ≤ 401 → g.1 7 4 0 = nI np → pcT g t B np → nbB B t (np - 1) = t → (∀ k, k + 1 < np → nbB B t k < t) → tpF h g → g.1 7 9 0 = 0 → ∃ h', f_Tape_rewind_b41 g = some h' ∧ tR h' t B (rn isSB B t 0) ∧ tpF h h' ∧ h'.1 7 9 0 = 0 := by
    intro g np cg n0 n4 e4 pc la bf f e9
    have s0 : f_Tape_rewind_b41 g = (f_Tape_goOn (xsI g 7 5 0 (-1))).bind (fun h7 => some h7) := rfl
    have go : f_Tape_goOn (xsI g 7 5 0 (-1)) = (if (xsI g 7 5 0 (-1)).1 7 5 0 + 1 < 0 then some (xsI g 7 5 0 (-1)) else if (xsI g 7 5 0 (-1)).1 7 4 0 ≤ (xsI g 7 5 0 (-1)).1 7 5 0 + 1 then some (xsI g 7 5 0 (-1)) else if (400 : Int32) ≤ (xsI g 7 5 0 (-1)).1 7 5 0 then some (xsI g 7 5 0 (-1)) else xlet (xsI (xsI g 7 5 0 (-1)) 7 5 0 ((xsI g 7 5 0 (-1)).1 7 5 0 + 1)) (fun h4 => if xib (h4.1 7 5 0) 401 then xlet (xsI h4 7 7 0 (h4.2.2.2.1 34 0 (h4.1 7 5 0).toNatClampNeg)) (fun h6 => if xib (h6.1 7 5 0) 401 then some (xsI h6 7 8 0 (h6.2.2.2.1 36 0 (h6.1 7 5 0).toNatClampNeg)) else none) else none)) := rfl
    have x0 : xib (nI 0) 401 := xibN (by decide) (by decide)
    have c0 : (nI 0).toNatClampNeg = 0 := nI_clamp (by decide)
    rw [show (xsI g 7 5 0 (-1)).1 7 5 0 = -1 from rdI_s, show (-1 : Int32) + 1 = nI 0 by decide, if_neg (nI_pos (by decide)), show (xsI g 7 5 0 (-1)).1 7 4 0 = nI np from (rdI (by decide)).trans e4, if_neg (nI_ge n0 (by omega)), if_neg (by decide), xsI_2, xlet_e, show (xsI g 7 5 0 (nI 0)).1 7 5 0 = nI 0 from rdI_s, if_pos x0, c0, xlet_e] at go
    obtain ⟨k, ek⟩ : ∃ k, k = xsI (xsI g 7 5 0 (nI 0)) 7 7 0 ((xsI g 7 5 0 (nI 0)).2.2.2.1 34 0 0) := ⟨_, rfl⟩
    have k5 : k.1 7 5 0 = nI 0 := by rw [ek, rdI (by decide), rdI_s]
    rw [← ek, k5, if_pos x0, c0] at go
    have kA : k.2.2.2.1 = g.2.2.2.1 := by rw [ek]; rfl
    obtain ⟨b1, b2, b3⟩ := pc 0 n0
    refine ⟨_, by rw [s0, go, Option.bind_some], ⟨ctx_of (h := g) (by rw [rdI (by decide), ek, rdI (by decide), rdI (by decide)]) (by show k.2.2.2.1 33 0 = _; rw [kA]) cg, 0, np, by rw [rdI (by decide)]; exact k5, by rw [rdI (by decide), ek, rdI (by decide), rdI (by decide)]; exact e4, n0, n4, rfl, la, bf, fun j hj => by show k.2.2.2.1 34 0 j = _ ∧ k.2.2.2.1 35 0 j = _ ∧ vlR B t _ (k.2.2.2.1 36 0 j); rw [kA]; exact pc j hj, by rw [rdI (by decide), ek, rdI_s]; exact b1, by rw [rdI_s, kA]; exact b3⟩, tpF_t f ⟨fun c j i q => by rw [rdI (by omega), ek, rdI (by omega), rdI (by omega)], fun f' i q => by show k.2.2.2.1 f' i = _; rw [kA]⟩, by rw [rdI (by decide), ek, rdI (by decide), rdI (by decide)]; exact e9⟩
  have key := whl_inv (step := fun s : Int32 × Int32 × xH => f_Tape_rewind_s14 s.1 s.2.1 s.2.2) (fun s => ∃ i, s.1 = nI (plB B t i) ∧ s.2.1 = nI i ∧ plB B t i ≤ t + 1 ∧ (∀ k, k + 1 < i → nbB B t k < t) ∧ (∀ k, k + 1 = i → (nbB B t k < t ↔ plB B t i ≤ t) ∧ nbB B t k ≤ t) ∧ ctx s.2.2 t B ∧ s.2.2.1 7 4 0 = nI i ∧ pcT s.2.2 t B i ∧ tpF h s.2.2 ∧ s.2.2.1 7 9 0 = 0) (fun s => 402 - s.1.toNatClampNeg) (fun h' => tR h' t B (rn isSB B t 0) ∧ tpF h h' ∧ h'.1 7 9 0 = 0) ?_ (0, 0, g0) ⟨0, rfl, rfl, Nat.zero_le _, fun k hk => absurd hk (by omega), fun k hk => absurd hk (by omega), ctx_of (h := h) (by rw [eg0, rdI (by decide), rdI (by decide)]) (by rw [eg0]; rfl) hc, by rw [eg0, rdI_s]; rfl, fun k hk => absurd hk (by omega), ⟨fun c k i q => by rw [eg0, rdI (by omega), rdI (by omega)], fun f i q => by rw [eg0]; rfl⟩, by rw [eg0, rdI (by decide), rdI_s]⟩
  · obtain ⟨h', e, q⟩ := key
    refine ⟨h', ?_, q⟩
    show f_Tape_rewind_l14 0 0 (xsI (xsI h 7 9 0 0) 7 4 0 0) = _
    rw [← eg0]
    exact e
  · rintro ⟨s1, s2, g⟩ ⟨i, e1, e2, p1, bf, la, cg, e4, pc, f, e9⟩
    have e1 : s1 = nI (plB B t i) := e1
    have e2 : s2 = nI i := e2
    subst e1
    subst e2
    have cg : ctx g t B := cg
    have e4 : g.1 7 4 0 = nI i := e4
    have pc : pcT g t B i := pc
    have f : tpF h g := f
    have e9 : g.1 7 9 0 = 0 := e9
    have ige := pl_ge (B := B) (t := t) i
    by_cases z : plB B t i ≤ t
    · left
      have b0 : nbB B t i ≤ t := by rw [nb_pl]; exact rn_le _ z
      obtain ⟨v, ev, hv⟩ := c_cut cg z
      rw [← nb_pl] at ev hv
      obtain ⟨g2, eg2, k4, k34, k35, k36, kI, kA⟩ := c_addPiece (k := kdB B t (nbB B t i)) (b := nI (nbB B t i)) (v := v) e4 (by omega)
      have run : f_Tape_rewind_s14 (nI (plB B t i)) (nI i) g = some (Sum.inl (nI (plB B t (i + 1)), nI (i + 1), g2)) := by
        unfold f_Tape_rewind_s14
        rw [if_neg (show ¬ (400 : Int32) < nI i from nI_nlt (b := i) (a := 400) (by omega) (by decide)), cg.1, if_neg (nI_nlt z (by omega)), ev, eg2, Option.bind_some, Option.bind_some, xlet_e, nI_1]
        rfl
      have gt : plB B t i < plB B t (i + 1) := by
        have h1 : plB B t i ≤ nbB B t i := by rw [nb_pl]; exact rn_ge _
        have h2 := enB_gt (B := B) (t := t) (p := nbB B t i)
        show plB B t i < enB B t (nbB B t i)
        omega
      have up : plB B t (i + 1) ≤ t + 1 := by
        show enB B t (nbB B t i) ≤ t + 1
        by_cases y : nbB B t i < t
        · have := enB_le (B := B) y
          omega
        · unfold enB
          rw [if_pos (by omega)]
          omega
      refine ⟨_, run, ⟨i + 1, rfl, rfl, up, fun k hk => ?_, fun k hk => ?_, ctx_of (h := g) (kI 7 6 0 (by decide)) (kA 33 0 (by decide)) cg, k4, fun k hk => ?_, tpF_t f ⟨fun c k j q => kI c k j (by omega), kA⟩, (kI 7 9 0 (by decide)).trans e9⟩, ?_⟩
      · by_cases y : k + 1 = i
        · exact ((la k y).1).mpr z
        · exact bf k (by omega)
      · have : k = i := by omega
        subst this
        refine ⟨⟨fun y => enB_le y, fun y => ?_⟩, b0⟩
        have y : enB B t (nbB B t k) ≤ t := y
        have := enB_gt (B := B) (t := t) (p := nbB B t k)
        omega
      · show g2.2.2.2.1 34 0 k = _ ∧ g2.2.2.2.1 35 0 k = _ ∧ vlR B t _ (g2.2.2.2.1 36 0 k)
        rw [k34, k35, k36]
        by_cases y : k = i
        · subst y
          rw [pk_us, pk_us, pk_us]
          exact ⟨rfl, rfl, hv⟩
        · rw [pk_un y, pk_un y, pk_un y]
          exact pc k (by omega)
      · show 402 - (nI (plB B t (i + 1))).toNatClampNeg < 402 - (nI (plB B t i)).toNatClampNeg
        rw [nI_clamp (by omega), nI_clamp (by omega)]
        omega
    · right
      have i0 : 0 < i := by
        rcases Nat.eq_zero_or_pos i with y | y
        · subst y
          exact absurd (Nat.zero_le t) z
        · exact y
      have lst := la (i - 1) (by omega)
      have ln : nbB B t (i - 1) = t := by
        have h1 : ¬ nbB B t (i - 1) < t := fun y => z (lst.1.mp y)
        omega
      obtain ⟨h', eh, q⟩ := fin g i cg i0 (by omega) e4 pc ln bf f e9
      refine ⟨h', ?_, q⟩
      show f_Tape_rewind_s14 (nI (plB B t i)) (nI i) g = _
      unfold f_Tape_rewind_s14
      rw [cg.1, if_pos (nI_lt (show t < plB B t i by omega) (by omega)), eh]
      split
      · rfl
      · rfl
/-! what is asked of the piece -/
theorem c_isSignT {h : xH} {t p s : Nat} {B : Nat → Nat} (ht : tR h t B p) (hs : s < 400) (hn : ¬ isLB s = true) (hd : ¬ isDB s = true) : f_Tape_isSign (nI s) h = some (if p < t ∧ B p = s ∧ ¬ weqB B t p = true then 1 else 0) := by
  obtain ⟨hc, a, np, -, -, -, -, -, -, -, -, k7, v8⟩ := ht
  have s0 : f_Tape_isSign (nI s) h = (if h.1 7 7 0 = 3 then (if h.1 7 8 0 = nI s then some 1 else some 0) else some 0) := rfl
  rw [s0, k7]
  unfold kdB
  by_cases z : p < t
  · have b8 := (hc.2.2 p z).2
    rw [if_neg (show ¬ t ≤ p by omega)]
    by_cases yl : isLB (B p) = true
    · rw [if_pos yl, if_neg (by decide), if_neg (fun u => by rw [u.2.1] at yl; exact hn yl)]
    · rw [if_neg yl]
      by_cases yd : isDB (B p) = true
      · rw [if_pos yd, if_neg (by decide), if_neg (fun u => by rw [u.2.1] at yd; exact hd yd)]
      · rw [if_neg yd, if_pos rfl, v8.2.2.2 z yl yd]
        by_cases yw : weqB B t p = true
        · rw [if_pos yw, if_neg (fun u => by have := (nI_eq (by omega) (by omega)).mp u; omega), if_neg (fun u => u.2.2 yw)]
        · rw [if_neg yw, Nat.add_zero]
          by_cases ys : B p = s
          · rw [ys, if_pos rfl, if_pos ⟨z, rfl, yw⟩]
          · rw [if_neg (fun u => ys ((nI_eq (by omega) (by omega)).mp u)), if_neg (fun u => ys u.2.1)]
  · rw [if_pos (show t ≤ p by omega), if_neg (by decide), if_neg (fun u => z u.1)]
theorem c_isWordT {h : xH} {t p i : Nat} {B : Nat → Nat} (ht : tR h t B p) (hi : i < 20) : f_Tape_isWord (nI i) h = some (ind (isWd B t p i)) := by
  obtain ⟨hc, a, np, -, -, -, -, -, -, -, -, k7, v8⟩ := ht
  have s0 : f_Tape_isWord (nI i) h = (if h.1 7 7 0 = 1 then (if h.1 7 8 0 = nI i then some 1 else some 0) else some 0) := rfl
  have w1 := (w_f4 i hi).2.2.1
  have no : ¬ ltB isLB B t p = true → ¬ isWd B t p i := fun u w => by
    have := w.1
    rw [rn_n u] at this
    omega
  rw [s0, k7]
  unfold kdB
  by_cases z : p < t
  · rw [if_neg (show ¬ t ≤ p by omega)]
    by_cases yl : isLB (B p) = true
    · rw [if_pos yl, if_pos rfl]
      rcases v8.2.1 z yl with ⟨e, l⟩ | ⟨j, hj, e, w⟩
      · rw [e, if_neg (fun u => nI_nm1 (by omega) u.symm), ind_f (show ¬ isWd B t p i from l i hi)]
      · rw [e]
        by_cases y : j = i
        · subst y
          rw [if_pos rfl, ind_t (show isWd B t p j from w)]
        · rw [if_neg (fun u => y ((nI_eq (by omega) (by omega)).mp u)), ind_f (show ¬ isWd B t p i from fun u => y (eqw_u hj hi w u))]
    · have nw := no (fun u => yl (ltB_t.mp u).2)
      rw [if_neg yl]
      by_cases yd : isDB (B p) = true
      · rw [if_pos yd, if_neg (by decide), ind_f nw]
      · rw [if_neg yd, if_neg (by decide), ind_f nw]
  · rw [if_pos (show t ≤ p by omega), if_neg (by decide), ind_f (no (fun u => z (ltB_t.mp u).1))]
