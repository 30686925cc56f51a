/-! PURE: took -/
theorem c_setTime {h : xH} {n j z : Nat} {V : Nat → Int32} {rl : Option Nat} {cs : List Cl} (hj : j < n) (hz : z ≤ 40) (h0 : h.1 10 1 0 = 0) (hw : wkA h V n rl cs) : wkA (xsA h 32 25 (upd (h.2.2.2.1 32 25) j (nI z))) (upd V (44 + j) (nI z)) n rl cs ∧ wkF h (xsA h 32 25 (upd (h.2.2.2.1 32 25) j (nI z))) := by
  obtain ⟨⟨st, ⟨w1, w2, w3, w4, w5⟩, -⟩, hv, hc⟩ := hw
  have h8 := hv.2.1
  refine ⟨⟨⟨0, ⟨?_, ?_, w3, w4, h0⟩, Or.inl rfl⟩, wOk_ti hv hz, clR_of (h := h) (fun k r => rfl) (fun r => by rw [rdA_n (by omega)]) hc⟩, fun c k i p q => rfl, fun f i q => rdA_n (by omega)⟩
  · obtain ⟨s1, s2, s3, s4, s5⟩ := w1
    refine ⟨?_, ?_, ?_, ?_, fun k hk => ?_⟩
    · rw [pk_un (by omega)]; exact s1
    · rw [pk_un (by omega)]; exact s2
    · show h.1 6 2 25 = _
      rw [s3]
      exact congrArg nI (bs_congr (fun k hk => by unfold vIn; rw [pk_un (show 12 + k ≠ 44 + j by omega)]))
    · show h.1 6 3 25 = _
      rw [s4]
      exact congrArg nI (bs_congr (fun k hk => by unfold vLb; rw [pk_un (show 12 + k ≠ 44 + j by omega)]))
    · rw [rdA_n (by omega), rdA_n (by omega), rdA_n (by omega), rdA_s, pk_un (show 20 + k ≠ 44 + j by omega), pk_un (show 36 + k ≠ 44 + j by omega), pk_un (show 28 + k ≠ 44 + j by omega)]
      obtain ⟨t1, t2, t3, t4⟩ := s5 k hk
      refine ⟨t1, t2, t3, ?_⟩
      by_cases q : k = j
      · subst q
        rw [pk_us, pk_us]
      · rw [pk_un q, pk_un (show 44 + k ≠ 44 + j by omega)]
        exact t4
  · obtain ⟨t1, t2, t3⟩ := w2
    refine ⟨?_, ?_, fun k hk => ?_⟩
    · rw [pk_un (by omega)]; exact t1
    · rw [pk_un (by omega)]; exact t2
    · rw [rdA_n (by omega), pk_un (by omega)]; exact t3 k hk
theorem bg_ti {V W : Nat → Int32} {j : Nat} {x : Int32} (hj : j < 8) (ho : ∀ t, ¬ (10 ≤ t ∧ t < 44) → t ≠ 44 + j → W t = V t) : bgV (upd W (44 + j) x) = upd (bgV V) (44 + j) x := by
  funext t
  by_cases a : t = 44 + j
  · subst a
    rw [pk_us, bgV_lo (by omega), pk_us]
  rw [pk_un a]
  unfold bgV bgK
  by_cases b1 : t = 10 ∨ t = 11
  · rw [if_pos b1, if_pos b1]
  rw [if_neg b1, if_neg b1]
  by_cases b2 : 12 ≤ t ∧ t < 12 + 8
  · rw [if_pos b2, if_pos b2]
  rw [if_neg b2, if_neg b2]
  by_cases b3 : 20 ≤ t ∧ t < 20 + 8
  · rw [if_pos b3, if_pos b3]
  rw [if_neg b3, if_neg b3]
  by_cases b4 : 28 ≤ t ∧ t < 28 + 8
  · rw [if_pos b4, if_pos b4, pk_un (by omega)]
    exact ho _ (by omega) (by omega)
  rw [if_neg b4, if_neg b4]
  by_cases b5 : 36 ≤ t ∧ t < 36 + 8
  · rw [if_pos b5, if_pos b5, pk_un (by omega)]
    exact ho _ (by omega) (by omega)
  rw [if_neg b5, if_neg b5, pk_un a]
  exact ho t (by omega) a
theorem sel_e {α : Type} {b : Bool} {x y : α} : (if (if b = true then (1 : Int32) else 0) = 0 then x else y) = if b = true then y else x := by
  cases b with
  | true => exact (if_neg (show ¬ (if true = true then (1 : Int32) else 0) = 0 by decide)).trans (if_pos rfl).symm
  | false => exact (if_pos (show (if false = true then (1 : Int32) else 0) = 0 by decide)).trans (if_neg (by decide)).symm
/-- how long it can have taken: how many, the least -/
def toG (P : Nat → Bool) (k : Nat) (s : Int32 × Int32) : Int32 × Int32 := if P (40 - k) = true then (s.1 + 1, nI (40 - k)) else s
theorem dn40 {k : Nat} (hk : k < 40) : nI (40 - k) + (-1) = nI (40 - (k + 1)) := by
  rw [show 40 - k = (40 - (k + 1)) + 1 by omega]
  exact pk_m1 _
/-- notes of V are within their ranges -/
theorem nt_z {V : Nat → Int32} {n m c : Nat} (hv : vOk V n m c) : ∀ j, j < c → ∃ z, z ≤ 60 ∧ V (80 + 2 * j) = nI z := by
  obtain ⟨-, -, -, -, -, -, -, -, -, -, -, -, -, -, hk⟩ := hv
  exact fun j hj => (hk j hj).1
theorem nt_r {h : xH} {n m c : Nat} {V : Nat → Int32} (hsc : scR h 0 V n m c) : ntR h V c := by
  obtain ⟨hv, -, -, e, f⟩ := hsc
  obtain ⟨-, -, -, -, -, -, -, -, -, -, -, -, h100, c10, -⟩ := hv
  exact ⟨e.trans h100, c10, f⟩
theorem ntR_v {h : xH} {V W : Nat → Int32} {c : Nat} (e : ∀ t, 80 ≤ t → W t = V t) (hn : ntR h V c) : ntR h W c := by
  refine ⟨hn.1, hn.2.1, fun j hj => ?_⟩
  rw [e _ (by omega), e _ (by omega)]
  exact hn.2.2 j hj
theorem c_took35 {h : xH} {n m c j : Nat} {rl : Option Nat} {cs : List Cl} (v : Int32) (hj : j < n) (hsc : scR h 0 (mS h) n m c) (hf : h.1 4 2 0 = oI rl) (hc : clR h rl cs) (hn : ∀ h1, h1.1 11 5 0 = h.1 11 5 0 → f_B_ruleNumbered (oI rl) h1 = some rl) : ∃ h2, f_B_took_l35 (nI j) v 0 (-2) 40 h = some (if v = 0 then (fold (toG (fun z => aS (upd (bgV (mS h)) (44 + j) (nI z)) n rl cs c)) (0, -2) 40).1 else (fold (toG (fun z => aS (upd (bgV (mS h)) (44 + j) (nI z)) n rl cs c)) (0, -2) 40).2, h2) ∧ wkF h h2 := by
  obtain ⟨G, hG⟩ : ∃ G, G = toG (fun z => aS (upd (bgV (mS h)) (44 + j) (nI z)) n rl cs c) := ⟨_, rfl⟩
  rw [← hG]
  have h8 := (wOk_v hsc.1).2.1
  have key := whl_cntE (step := fun s : Int32 × Int32 × Int32 × xH => f_B_took_s35 (nI j) v s.1 s.2.1 s.2.2.1 s.2.2.2) 40 (fun k s => s.1 = (fold G (0, -2) k).1 ∧ s.2.1 = (fold G (0, -2) k).2 ∧ s.2.2.1 = nI (40 - k) ∧ wkF h s.2.2.2) (fun x => ∃ h2, x = (if v = 0 then (fold G (0, -2) 40).1 else (fold G (0, -2) 40).2, h2) ∧ wkF h h2) ?_ ?_ (0, -2, 40, h) ⟨rfl, rfl, rfl, wkF_refl h⟩
  · obtain ⟨x, e, h2, rfl, q⟩ := key
    exact ⟨h2, e, q⟩
  · rintro k hk ⟨q0, q1, q2, g⟩ ⟨e0, e1, e2, f⟩
    have e2 : q2 = nI (40 - k) := e2
    subst e2
    have e0 : q0 = (fold G (0, -2) k).1 := e0
    have e1 : q1 = (fold G (0, -2) k).2 := e1
    have f : wkF h g := f
    left
    obtain ⟨eS, sc2, hf2, hc2, h11⟩ := ask_on f hsc hf hc
    obtain ⟨g1, eg1, wg1, fg1, z1⟩ := c_startAnew (h := g) sc2.1 sc2.2.1 hc2
    rw [eS] at wg1
    obtain ⟨wg2, fg2⟩ := c_setTime (z := 40 - k) hj (by omega) z1 wg1
    have ff := wkF_trans (wkF_trans f fg1) fg2
    obtain ⟨g3, eg3, fg3⟩ := c_allNotes (c := c) wg2 (ntR_v (V := mS h) (fun t ht => by rw [pk_un (by omega), bgV_lo (by omega)]) (ntR_k ff (nt_r hsc))) (fun i hi => by rw [pk_un (by omega), bgV_lo (by omega)]; exact nt_z hsc.1 i hi)
    have fin := wkF_trans ff fg3
    have st : f_B_startFromBegin (g.1 4 2 0) g = some g1 := by
      show (f_B_ruleNumbered (g.1 4 2 0) g).bind (fun r1 => (f_Walk_startAnew 0 r1 g).bind (fun h5 => some h5)) = _
      rw [hf2, hn g h11, Option.bind_some, eg1]
      rfl
    have run : f_B_took_s35 (nI j) v q0 q1 (nI (40 - k)) g = (if (if aS (upd (bgV (mS h)) (44 + j) (nI (40 - k))) n rl cs c = true then (1 : Int32) else 0) = 0 then some (Sum.inl (q0, q1, nI (40 - (k + 1)), g3)) else some (Sum.inl (q0 + 1, nI (40 - k), nI (40 - (k + 1)), g3))) := by
      unfold f_B_took_s35 f_B_took_b80
      rw [if_neg (show ¬ nI (40 - k) < (1 : Int32) from nI_nlt (a := 40 - k) (b := 1) (by omega) (by omega)), st, Option.bind_some, if_pos (xibN (by omega) (by decide)), nI_clamp (by omega), xlet_e, eg3, Option.bind_some, xlet_e, xlet_e, xlet_e, dn40 hk]
    have fs : fold G (0, -2) (k + 1) = G k (fold G (0, -2) k) := rfl
    refine ⟨((fold G (0, -2) (k + 1)).1, (fold G (0, -2) (k + 1)).2, nI (40 - (k + 1)), g3), run.trans ?_, rfl, rfl, rfl, fin⟩
    have gk : G k (fold G (0, -2) k) = if aS (upd (bgV (mS h)) (44 + j) (nI (40 - k))) n rl cs c = true then ((fold G (0, -2) k).1 + 1, nI (40 - k)) else fold G (0, -2) k := by rw [hG]; rfl
    rw [sel_e, fs, gk, e0, e1]
    by_cases q : aS (upd (bgV (mS h)) (44 + j) (nI (40 - k))) n rl cs c = true
    · rw [if_pos q, if_pos q]
    · rw [if_neg q, if_neg q]
  · rintro ⟨q0, q1, q2, g⟩ ⟨e0, e1, e2, f⟩
    have e2 : q2 = nI 0 := e2
    subst e2
    have e0 : q0 = (fold G (0, -2) 40).1 := e0
    have e1 : q1 = (fold G (0, -2) 40).2 := e1
    refine ⟨(if v = 0 then q0 else q1, g), ?_, g, by rw [e0, e1], f⟩
    show f_B_took_s35 (nI j) v q0 q1 (nI 0) g = _
    unfold f_B_took_s35 f_B_took_b86
    rw [if_pos (by decide)]
    by_cases q : v = 0
    · rw [if_pos q, if_pos q]; rfl
    · rw [if_neg q, if_neg q]; rfl
/-- the reference tells notes over: what may have changed -/
def tkM2 (h0 h' : xH) (V : Nat → Int32) : Prop := (∀ c k i, ¬ (c = 12 ∧ k = 18) → h'.1 c k i = h0.1 c k i) ∧ (∀ f i, ¬ (i = 0 ∧ (f = 56 ∨ f = 58 ∨ f = 65)) → h'.2.2.2.1 f i = h0.2.2.2.1 f i) ∧ ∀ j, j < 34 → h'.2.2.2.1 58 0 j = V (10 + j)
theorem m_took45 {h0 h : xH} {n m c j : Nat} {rl : Option Nat} {cs : List Cl} (v : Int32) (hj : j < n) (hw : mwR h0 h (mS h0) (mS h0)) (hv : vOk (mS h0) n m c) (hf : h0.1 12 21 0 = oI rl) (hr : ∀ r, rl = some r → r < 6 ∧ mcR h0 r 0 0 cs) : ∃ h2, f_M_took_l45 (nI j) v (mS h0 (44 + j)) 0 (-2) 40 h = some (if v = 0 then (fold (toG (fun z => aS (upd (bgV (mS h0)) (44 + j) (nI z)) n rl cs c)) (0, -2) 40).1 else (fold (toG (fun z => aS (upd (bgV (mS h0)) (44 + j) (nI z)) n rl cs c)) (0, -2) 40).2, h2) ∧ sameJ h0 h2 := by
  obtain ⟨G, hG⟩ : ∃ G, G = toG (fun z => aS (upd (bgV (mS h0)) (44 + j) (nI z)) n rl cs c) := ⟨_, rfl⟩
  rw [← hG]
  have hwk := wOk_v hv
  have h8 := hwk.2.1
  obtain ⟨-, -, -, -, -, -, -, -, -, -, -, -, h100, c10, -⟩ := id hv
  have x44 : xib ((44 : Int32) + nI j) 101 := xibA (c := 44) (a := 44) rfl (by omega) (by decide)
  have c44 : ((44 : Int32) + nI j).toNatClampNeg = 44 + j := ixA (c := 44) (a := 44) rfl (by omega)
  have key := whl_cntE (step := fun s : Int32 × Int32 × Int32 × xH => f_M_took_s45 (nI j) v (mS h0 (44 + j)) s.1 s.2.1 s.2.2.1 s.2.2.2) 40 (fun k s => s.1 = (fold G (0, -2) k).1 ∧ s.2.1 = (fold G (0, -2) k).2 ∧ s.2.2.1 = nI (40 - k) ∧ tkM2 h0 s.2.2.2 (mS h0) ∧ ∀ t, ¬ (10 ≤ t ∧ t < 44) → t ≠ 44 + j → mS s.2.2.2 t = mS h0 t) (fun x => ∃ h2, x = (if v = 0 then (fold G (0, -2) 40).1 else (fold G (0, -2) 40).2, h2) ∧ sameJ h0 h2) ?_ ?_ (0, -2, 40, h) ⟨rfl, rfl, rfl, ⟨hw.1, fun f i q => hw.2.1 f i (by omega) (by omega), hw.2.2.1⟩, fun t _ _ => congrFun hw.2.2.2 t⟩
  · obtain ⟨x, e, h2, rfl, q⟩ := key
    exact ⟨h2, e, q⟩
  · rintro k hk ⟨q0, q1, q2, g⟩ ⟨e0, e1, e2, f, ho⟩
    have e2 : q2 = nI (40 - k) := e2
    subst e2
    have e0 : q0 = (fold G (0, -2) k).1 := e0
    have e1 : q1 = (fold G (0, -2) k).2 := e1
    have f : tkM2 h0 g (mS h0) := f
    have ho : ∀ t, ¬ (10 ≤ t ∧ t < 44) → t ≠ 44 + j → mS g t = mS h0 t := ho
    left
    obtain ⟨g1, eg1⟩ : ∃ g1, g1 = xsA g 56 0 (upd (mS g) (44 + j) (nI (40 - k))) := ⟨_, rfl⟩
    obtain ⟨g2, eg2⟩ : ∃ g2, g2 = xsA g1 56 0 (bgV (mS g1)) := ⟨_, rfl⟩
    have s1 : mS g1 = upd (mS g) (44 + j) (nI (40 - k)) := by rw [eg1]; exact rdA_s
    have s2 : mS g2 = upd (bgV (mS h0)) (44 + j) (nI (40 - k)) := by
      rw [eg2]
      show (xsA g1 56 0 (bgV (mS g1))).2.2.2.1 56 0 = _
      rw [rdA_s, s1]
      exact bg_ti (by omega) ho
    have I2 : g2.1 = g.1 := by rw [eg2, eg1]; rfl
    have A2 : ∀ f' i, ¬ (f' = 56 ∧ i = 0) → g2.2.2.2.1 f' i = g.2.2.2.1 f' i := fun f' i q => by rw [eg2, rdA_n q, eg1, rdA_n q]
    obtain ⟨g3, eg3, eS3, f3, -⟩ := m_areAllSo (h := g2) (n := n) (r := 0) (c := c) (rl := rl) (cs := cs) (by decide) (by rw [s2]; exact wOk_ti (wOk_bg hv) (by omega)) (by rw [I2, f.1 12 21 0 (by omega)]; exact hf) (fun r' hr' => ⟨(hr r' hr').1, mcR_of2 (by rw [A2 48 0 (by omega), f.2.1 48 0 (by omega)]) (by rw [A2 50 0 (by omega), f.2.1 50 0 (by omega)]) (by rw [A2 51 0 (by omega), f.2.1 51 0 (by omega)]) (hr r' hr').2⟩) (by rw [s2, pk_un (by omega), bgV_lo (by omega)]; exact h100) c10
    rw [s2] at eg3 eS3
    have run : f_M_took_s45 (nI j) v (mS h0 (44 + j)) q0 q1 (nI (40 - k)) g = (if (if aS (upd (bgV (mS h0)) (44 + j) (nI (40 - k))) n rl cs c = true then (1 : Int32) else 0) = 0 then some (Sum.inl (q0, q1, nI (40 - (k + 1)), g3)) else some (Sum.inl (q0 + 1, nI (40 - k), nI (40 - (k + 1)), g3))) := by
      unfold f_M_took_s45 f_M_took_b83
      rw [if_neg (show ¬ nI (40 - k) ≤ (0 : Int32) from nI_nle (by omega) (by omega)), if_pos x44, c44, xlet_e]
      show (f_M_begins (xsA g 56 0 (upd (mS g) (44 + j) (nI (40 - k))))).bind _ = _
      rw [← eg1, m_begins, Option.bind_some, ← eg2]
      show (f_M_areAllSo (nI 0) g2).bind _ = _
      rw [eg3, Option.bind_some, xlet_e, xlet_e, xlet_e, dn40 hk]
    have fs : fold G (0, -2) (k + 1) = G k (fold G (0, -2) k) := rfl
    refine ⟨((fold G (0, -2) (k + 1)).1, (fold G (0, -2) (k + 1)).2, nI (40 - (k + 1)), g3), run.trans ?_, rfl, rfl, rfl, ⟨fun c' k' i' q => ?_, fun f' i' q => ?_, fun i hi => ?_⟩, fun t h1 h2 => ?_⟩
    · have gk : G k (fold G (0, -2) k) = if aS (upd (bgV (mS h0)) (44 + j) (nI (40 - k))) n rl cs c = true then ((fold G (0, -2) k).1 + 1, nI (40 - k)) else fold G (0, -2) k := by rw [hG]; rfl
      rw [sel_e, fs, gk, e0, e1]
      by_cases q : aS (upd (bgV (mS h0)) (44 + j) (nI (40 - k))) n rl cs c = true
      · rw [if_pos q, if_pos q]
      · rw [if_neg q, if_neg q]
    · show g3.1 c' k' i' = _
      rw [f3.1 c' k' i' q, I2]
      exact f.1 c' k' i' q
    · show g3.2.2.2.1 f' i' = _
      rw [f3.2 f' i' (by omega) (by omega), A2 f' i' (by omega)]
      exact f.2.1 f' i' q
    · show g3.2.2.2.1 58 0 i = _
      rw [f3.2 58 0 (by omega) (by omega), A2 58 0 (by omega)]
      exact f.2.2 i hi
    · show mS g3 t = _
      rw [eS3, wlk_o h8 h1, pk_un h2, bgV_lo (by omega)]
  · rintro ⟨q0, q1, q2, g⟩ ⟨e0, e1, e2, f, ho⟩
    have e2 : q2 = nI 0 := e2
    subst e2
    have e0 : q0 = (fold G (0, -2) 40).1 := e0
    have e1 : q1 = (fold G (0, -2) 40).2 := e1
    have f : tkM2 h0 g (mS h0) := f
    have ho : ∀ t, ¬ (10 ≤ t ∧ t < 44) → t ≠ 44 + j → mS g t = mS h0 t := ho
    obtain ⟨g1, eg1⟩ : ∃ g1, g1 = xsA g 56 0 (upd (mS g) (44 + j) (mS h0 (44 + j))) := ⟨_, rfl⟩
    have s1 : mS g1 = upd (mS g) (44 + j) (mS h0 (44 + j)) := by rw [eg1]; exact rdA_s
    have lb : f_M_laysBack g1 = some (xsA g1 56 0 (mS h0)) := m_laysBack (fun i hi => by rw [eg1, rdA_n (by omega)]; exact f.2.2 i hi) (fun t ht => by
      rw [s1]
      by_cases q : t = 44 + j
      · subst q; exact pk_us
      · rw [pk_un q]; exact ho t ht q)
    refine ⟨(if v = 0 then q0 else q1, xsA g1 56 0 (mS h0)), ?_, xsA g1 56 0 (mS h0), by rw [e0, e1], fun c' k' i' q => ?_, fun f' i' q => ?_⟩
    · show f_M_took_s45 (nI j) v (mS h0 (44 + j)) q0 q1 (nI 0) g = _
      unfold f_M_took_s45 f_M_took_b89
      rw [if_pos (by decide), if_pos x44, c44, xlet_e]
      show xup ((f_M_laysBack (xsA g 56 0 (upd (mS g) (44 + j) (mS h0 (44 + j))))).bind _) = _
      rw [← eg1, lb, Option.bind_some]
      by_cases q : v = 0
      · rw [if_pos q, if_pos q]; rfl
      · rw [if_neg q, if_neg q]; rfl
    · rw [eg1]
      exact f.1 c' k' i' (by unfold jF at q; omega)
    · by_cases q1 : f' = 56 ∧ i' = 0
      · rw [q1.1, q1.2, rdA_s]
      · rw [rdA_n q1, eg1, rdA_n q1]
        exact f.2.1 f' i' (by unfold jG at q; omega)
theorem p_took : lI_took (jII Qr) := by
  intro a b h hj
  obtain ⟨n, m, c, rl, cs, hsc, hf, hf4, hc, hr, hn⟩ := ask_pre hj
  obtain ⟨hv, ht, hst, -, -⟩ := id hsc
  have hw := wOk_v hv
  have h8 := hw.2.1
  have hmn : mN h n := ⟨hw.1, h8⟩
  have t3 : h.1 8 3 0 = nI n := ht.2.2.2.1.trans hw.1
  have rf : ∀ h1 : xH, f_M_took a b h1 = (f_M_isSorrow a h1).bind (fun r1 => if r1 = 0 then some (-1, h1) else (f_M_in b.toInt64 0 1 h1).bind (fun r4 => if r4 = 0 then some (-1, h1) else if xib ((44 : Int32) + a) 101 then (f_M_keeps h1).bind (fun h11 => f_M_took_l45 a b (mS h1 ((44 : Int32) + a).toNatClampNeg) 0 (-2) 40 h11) else none)) := fun _ => rfl
  have cl : f_B_took a b h = (if b < 0 then some (-1, h) else if 1 < b then some (-1, h) else (f_Told_hasSorrow 0 a h).bind (fun r3 => if r3 = 0 then some (-1, h) else f_B_took_l35 a b 0 (-2) 40 h)) := rfl
  have mb : ∀ h1 : xH, f_M_in b.toInt64 0 1 h1 = some (if b < 0 ∨ 1 < b then 0 else 1) := fun h1 => m_in b 0 1 (by decide) (by decide)
  have out : (a < 0 ∨ nI n ≤ a) → ∃ r h1 h2, f_B_took a b h = some (r, h1) ∧ f_M_took a b h1 = some (r, h2) ∧ jII Qr h2 := by
    intro o
    refine ⟨-1, h, h, ?_, by rw [rf, m_isSorrow_out hmn o]; rfl, hj⟩
    rw [cl, c_hasSorrow_out t3 o]
    split
    · rfl
    · split
      · rfl
      · rfl
  rcases pk_ix a (n := n) (by omega) with q | q | ⟨j, hjn, rfl⟩
  · exact out (Or.inl q)
  · exact out (Or.inr q)
  by_cases b0 : b < 0
  · exact ⟨-1, h, h, by rw [cl, if_pos b0], by rw [rf, m_isSorrow_in hmn hjn, Option.bind_some, if_neg (by decide), mb, if_pos (Or.inl b0)]; rfl, hj⟩
  by_cases b1 : 1 < b
  · exact ⟨-1, h, h, by rw [cl, if_neg b0, if_pos b1], by rw [rf, m_isSorrow_in hmn hjn, Option.bind_some, if_neg (by decide), mb, if_pos (Or.inr b1)]; rfl, hj⟩
  obtain ⟨g1, eg1, f1⟩ := c_took35 b hjn hsc hf4 hc hn
  obtain ⟨eS, mf, mr⟩ := ask_mid f1 hf hr
  obtain ⟨k1, ek1, wk1⟩ := m_keepW (h := g1)
  obtain ⟨k2, ek2, j2⟩ := m_took45 b hjn wk1 (by rw [eS]; exact hv) mf mr
  rw [eS] at ek2
  obtain ⟨r, er⟩ : ∃ r, r = (if b = 0 then (fold (toG (fun z => aS (upd (bgV (mS h)) (44 + j) (nI z)) n rl cs c)) (0, -2) 40).1 else (fold (toG (fun z => aS (upd (bgV (mS h)) (44 + j) (nI z)) n rl cs c)) (0, -2) 40).2) := ⟨_, rfl⟩
  rw [← er] at eg1 ek2
  refine ⟨r, g1, k2, ?_, ?_, sameJ_jII Qr_ok (sameJ_trans (wkF_J f1) j2) hj⟩
  · rw [cl, if_neg b0, if_neg b1, c_hasSorrow_in t3 h8 hjn, Option.bind_some, if_neg (by decide), eg1]
  · rw [rf, m_isSorrow_in (h := g1) (n := n) ⟨by rw [eS]; exact hw.1, h8⟩ hjn, Option.bind_some, if_neg (by decide), mb, if_neg (fun y => y.elim b0 b1), Option.bind_some, if_neg (by decide), if_pos (xibA (c := 44) (a := 44) rfl (by omega) (by decide)), ixA (c := 44) (a := 44) rfl (by omega), ek1, Option.bind_some, eS, ek2]
