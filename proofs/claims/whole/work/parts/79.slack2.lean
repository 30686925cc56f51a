/-! PURE: slack, both sides -/
def gbW (V : Nat → Int32) (z : Nat) : Nat → Int32 := upd V 10 (gbT V (nI z))
theorem up_1 {V : Nat → Int32} {a : Int32} : upd V 10 a = upd (upd V 10 a) 11 (V 11) := by
  have : (upd V 10 a) 11 = V 11 := pk_un (by decide)
  rw [← this]
  exact upd_id.symm
theorem gbW_o {V : Nat → Int32} {z t : Nat} (h : t ≠ 10) : gbW V z t = V t := pk_un h
theorem wOk_gb {V : Nat → Int32} {n z : Nat} (hv : wOk V n) (hz : z ≤ 9999) : wOk (gbW V z) n := by
  unfold gbW
  rw [up_1]
  exact wOk_up hv (gbT_ok hv hz)
theorem mn_gb {V : Nat → Int32} {n z : Nat} (hv : wOk V n) (hz : z ≤ 9999) : mnV (gbW V z) = min 9999 (mnV V + z) :=
  mn_of (by unfold gbW; rw [pk_us]; exact gbT_n hv hz) (Nat.min_le_left _ _)
theorem c_passW {h : xH} {n z : Nat} {V : Nat → Int32} {rl : Option Nat} {cs : List Cl} (hz : z ≤ 9999) (hw : wkA h V n rl cs) : ∃ h2, f_State_pass 25 (nI z) h = some h2 ∧ wkA h2 (gbW V z) n rl cs ∧ wkF h h2 := by
  obtain ⟨⟨st, ⟨w1, w2, w3, w4, w5⟩, hst⟩, hv, hc⟩ := hw
  obtain ⟨em, hm⟩ := mn_e hv
  have ep : f_State_pass 25 (nI z) h = some (xsI h 6 0 25 (gbT V (nI z))) := by
    show (f_Math_min 9999 (h.1 6 0 25 + nI z) h).bind (fun r1 => some (xsI h 6 0 25 r1)) = _
    rw [w1.1, em, nI_add, c_minT (by omega), gbT_n hv hz]
    rfl
  refine ⟨_, ep, ⟨⟨st, ⟨?_, ?_, w3, w4, ?_⟩, ?_⟩, wOk_gb hv hz, clR_of (h := h) (fun k r => by rw [rdI (by omega)]) (fun r => rfl) hc⟩, ?_⟩
  · obtain ⟨s1, s2, s3, s4, s5⟩ := w1
    refine ⟨?_, ?_, ?_, ?_, fun k hk => ?_⟩
    · rw [rdI_s]; exact (pk_us).symm
    · rw [rdI (by decide), gbW_o (by decide)]; exact s2
    · rw [rdI (by decide), s3]
      unfold gbW
      rw [up_1, vIn_up]
    · rw [rdI (by decide), s4]
      unfold gbW
      rw [up_1, vLb_up]
    · rw [gbW_o (by omega), gbW_o (by omega), gbW_o (by omega), gbW_o (by omega)]
      exact s5 k hk
  · obtain ⟨t1, t2, t3⟩ := w2
    refine ⟨?_, ?_, fun k hk => ?_⟩
    · rw [rdI (by decide), gbW_o (by decide)]; exact t1
    · rw [rdI (by decide), gbW_o (by decide)]; exact t2
    · rw [gbW_o (by omega)]; exact t3 k hk
  · rw [rdI (by decide)]; exact w5
  · refine hst.imp id (fun q => ⟨q.1, fun a b => ?_⟩)
    unfold gbW
    rw [upd_2]
    exact q.2 a b
  · exact ⟨fun c k i p q => rdI_n q, fun f i q => rfl⟩
theorem m_goesW {h0 h : xH} {V0 W : Nat → Int32} {z : Nat} (hw : mwR h0 h V0 W) : ∃ h2, f_M_goesBy (nI z) h = some h2 ∧ mwR h0 h2 V0 (gbW W z) := by
  obtain ⟨a, b, c, d⟩ := hw
  refine ⟨_, m_goesBy, a, fun f i q1 q2 => ?_, fun j hj => ?_, ?_⟩
  · rw [rdA_n q1]; exact b f i q1 q2
  · rw [rdA_n (by decide)]; exact c j hj
  · show (xsA h 56 0 (upd (mS h) 10 (gbT (mS h) (nI z)))).2.2.2.1 56 0 = _
    rw [rdA_s, d]
    rfl
/-- the longest wait of at most N that is one of P -/
def isS (P : Nat → Prop) (N : Nat) (r : Int32) : Prop := (∃ z, z ≤ N ∧ r = nI z ∧ P z ∧ ∀ z', z < z' → z' ≤ N → ¬ P z') ∨ (r = -2 ∧ ∀ z, z ≤ N → ¬ P z)
theorem isS_u {P : Nat → Prop} {N N' : Nat} {r r' : Int32} (hN : ∀ z, z ≤ N' → P z → z ≤ N) (hN' : N ≤ N') (a : isS P N r) (b : isS P N' r') : r = r' := by
  rcases a with ⟨z, hz, rfl, pz, nz⟩ | ⟨rfl, nz⟩
  · rcases b with ⟨y, hy, rfl, py, ny⟩ | ⟨rfl, ny⟩
    · rcases Nat.lt_trichotomy z y with q | q | q
      · exact absurd py (nz y q (hN y hy py))
      · rw [q]
      · exact absurd pz (ny z q (by omega))
    · exact absurd pz (ny z (by omega))
  · rcases b with ⟨y, hy, rfl, py, ny⟩ | ⟨rfl, ny⟩
    · exact absurd py (nz y (hN y hy py))
    · rfl
/-- what a wait would bring -/
def slW (V : Nat → Int32) (n : Nat) (rl : Option Nat) (cs : List Cl) (j z : Nat) : Prop := slP (gbW V z) n rl cs j
theorem c_after {h : xH} {n m c j D T z : Nat} {rl : Option Nat} {cs : List Cl} (hj : j < n) (hz : z ≤ 300) (hsc : scR h 0 (mS h) n m c) (hD : mS h 1 = nI D) (hD3 : D ≤ 300) (hT : mS h (44 + j) = nI T) (hT4 : T ≤ 40) (hf : h.1 4 2 0 = oI rl) (hc : clR h rl cs) (hn : ∀ h1, h1.1 11 5 0 = h.1 11 5 0 → f_B_ruleNumbered (oI rl) h1 = some rl) : ∃ (b : Bool) (h2 : xH), f_B_isLetBeAfter (nI z) (nI j) h = some (if b then 1 else 0, h2) ∧ (b = true ↔ slW (mS h) n rl cs j z) ∧ wkF h h2 := by
  obtain ⟨g, eg, wg, fg⟩ := ask_start hsc hf hc hn
  obtain ⟨g1, eg1, wg1, fg1⟩ := c_passW (z := z) (by omega) wg
  have h8 := wg.2.1.2.1
  have eD : gbW (mS h) z 1 = nI D := by rw [gbW_o (by decide)]; exact hD
  have eT : gbW (mS h) z (44 + j) = nI T := by rw [gbW_o (by omega)]; exact hT
  obtain ⟨b, g2, eg2, hb, fg2⟩ := c_soon hj eD hD3 eT hT4 wg1
  refine ⟨b, g2, ?_, hb, wkF_trans (wkF_trans fg fg1) fg2⟩
  obtain ⟨⟨st, ⟨w1, w2, -⟩, -⟩, -⟩ := wg1
  show (f_B_startNow h).bind (fun h3 => (f_State_pass 25 (nI z) h3).bind (fun h6 => if xib (nI j) 8 then f_B_isLetBeAfter_l42 (nI j) ((h6.1 8 1 0) - (h6.2.2.2.1 32 25 (nI j).toNatClampNeg)) 0 h6 else none)) = _
  rw [eg, Option.bind_some, eg1, Option.bind_some, if_pos (xibN (by omega) (by decide)), nI_clamp (by omega), w2.1, (w1.2.2.2.2 j hj).2.2.2, eD, eT, eg2]
/-- a scene that walks have left alone -/
theorem ask_on {h h1 : xH} {n m c : Nat} {rl : Option Nat} {cs : List Cl} (f : wkF h h1) (hsc : scR h 0 (mS h) n m c) (hf : h.1 4 2 0 = oI rl) (hc : clR h rl cs) : mS h1 = mS h ∧ scR h1 0 (mS h1) n m c ∧ h1.1 4 2 0 = oI rl ∧ clR h1 rl cs ∧ h1.1 11 5 0 = h.1 11 5 0 := by
  have eS : mS h1 = mS h := f.2 56 0 (by omega)
  refine ⟨eS, ?_, by rw [f.1 4 2 0 (by decide) (by decide)]; exact hf, clR_of (fun k r => f.1 2 k r (by decide) (by omega)) (fun r => f.2 18 r (by omega)) hc, f.1 11 5 0 (by decide) (by decide)⟩
  rw [eS]
  exact scR_of (W := mS h) (fun k _ => f.1 8 k 0 (by decide) (by omega)) (fun k _ => f.1 6 k 0 (by decide) (by omega)) (f.1 4 4 0 (by decide) (by decide)) (fun g h1 h2 k _ => by rw [f.2 g 0 (by omega)]) (fun k _ => by rw [f.2 41 0 (by omega)]) (fun g h1 h2 k _ => by rw [f.2 g 0 (by omega)]) (fun g hg k _ => by rw [f.2 g 0 (by omega)]) (fun _ _ => rfl) hsc
theorem c_slack59 {h : xH} {n m c j D T N : Nat} {rl : Option Nat} {cs : List Cl} (hj : j < n) (hN : N ≤ 300) (hsc : scR h 0 (mS h) n m c) (hD : mS h 1 = nI D) (hD3 : D ≤ 300) (hT : mS h (44 + j) = nI T) (hT4 : T ≤ 40) (hf : h.1 4 2 0 = oI rl) (hc : clR h rl cs) (hn : ∀ h1, h1.1 11 5 0 = h.1 11 5 0 → f_B_ruleNumbered (oI rl) h1 = some rl) : ∃ (r : Int32) (h2 : xH), f_B_slack_l59 (nI j) (nI N) h = some (r, h2) ∧ isS (slW (mS h) n rl cs j) N r ∧ wkF h h2 := by
  have key := whl_cntE (step := fun s : Int32 × xH => f_B_slack_s59 (nI j) s.1 s.2) (N + 1) (fun k s => (k ≤ N → s.1 = nI (N - k)) ∧ (k = N + 1 → s.1 = -1) ∧ wkF h s.2 ∧ ∀ z, N < z + k → z ≤ N → ¬ slW (mS h) n rl cs j z) (fun x => ∃ (r : Int32) (h2 : xH), x = (r, h2) ∧ isS (slW (mS h) n rl cs j) N r ∧ wkF h h2) ?_ ?_ (nI N, h) ⟨fun _ => rfl, fun z => by omega, wkF_refl h, fun z h1 h2 => by omega⟩
  · obtain ⟨x, e, r, h2, rfl, q⟩ := key
    exact ⟨r, h2, e, q⟩
  · rintro k hk ⟨q1, g⟩ ⟨e1, -, f, l⟩
    have e1 : q1 = nI (N - k) := e1 (by omega)
    subst e1
    have f : wkF h g := f
    obtain ⟨eS, sc2, hf2, hc2, h11⟩ := ask_on f hsc hf hc
    obtain ⟨b, g2, eg2, hb, fg2⟩ := c_after (h := g) (z := N - k) hj (by omega) sc2 (by rw [eS]; exact hD) hD3 (by rw [eS]; exact hT) hT4 hf2 hc2 (fun h1 e => hn h1 (e.trans h11))
    rw [eS] at hb
    have run : f_B_slack_s59 (nI j) (nI (N - k)) g = (if (if b then (1 : Int32) else 0) = 0 then some (Sum.inl (nI (N - k) + (-1), g2)) else some (Sum.inr (nI (N - k), g2))) := by
      unfold f_B_slack_s59
      rw [if_neg (nI_pos (by omega)), eg2, Option.bind_some]
      rfl
    cases b with
    | true =>
      right
      exact ⟨_, by show f_B_slack_s59 (nI j) (nI (N - k)) g = _; rw [run]; exact if_neg (by decide), nI (N - k), g2, rfl, Or.inl ⟨N - k, by omega, rfl, hb.mp rfl, fun z' h1 h2 => l z' (by omega) h2⟩, wkF_trans f fg2⟩
    | false =>
      left
      refine ⟨_, by show f_B_slack_s59 (nI j) (nI (N - k)) g = _; rw [run]; exact if_pos (by decide), fun q => ?_, fun q => ?_, wkF_trans f fg2, fun z h1 h2 => ?_⟩
      · show nI (N - k) + (-1) = nI (N - (k + 1))
        rw [show N - k = (N - (k + 1)) + 1 by omega]
        exact pk_m1 _
      · show nI (N - k) + (-1) = -1
        rw [show N - k = 0 by omega]
        decide
      · by_cases q : z = N - k
        · subst q
          exact fun y => by have := hb.mpr y; cases this
        · exact l z (by omega) h2
  · rintro ⟨q1, g⟩ ⟨-, e1, f, l⟩
    have e1 : q1 = -1 := e1 rfl
    subst e1
    refine ⟨(-2, g), ?_, -2, g, rfl, Or.inr ⟨rfl, fun z hz => ?_⟩, f⟩
    · show f_B_slack_s59 (nI j) (-1) g = _
      unfold f_B_slack_s59
      exact if_pos (by decide)
    · exact l z (by omega) hz
theorem m_slack21 {h0 h : xH} {n j : Nat} {rl : Option Nat} {cs : List Cl} (hj : j < n) (hw : mwR h0 h (mS h0) (mS h0)) (hv : wOk (mS h0) n) (hf : h0.1 12 21 0 = oI rl) (hr : ∀ r, rl = some r → r < 6 ∧ mcR h0 r 0 0 cs) : ∃ r h2, f_M_slack_l21 (nI j) (-2) 300 h = some (r, h2) ∧ isS (slW (mS h0) n rl cs j) 300 r ∧ sameJ h0 h2 := by
  have h8 := hv.2.1
  have mwJ : ∀ g, mwR h0 g (mS h0) (mS h0) → sameJ h0 g := fun g w => by
    refine ⟨fun c k i q => w.1 c k i (by unfold jF at q; omega), fun f i q => ?_⟩
    by_cases q1 : f = 56 ∧ i = 0
    · rw [q1.1, q1.2]; exact w.2.2.2
    · exact w.2.1 f i q1 (by unfold jG at q; omega)
  have key := whl_cntE (step := fun s : Int32 × Int32 × xH => f_M_slack_s21 (nI j) s.1 s.2.1 s.2.2) 301 (fun k s => (k ≤ 300 → s.2.1 = nI (300 - k)) ∧ (k = 301 → s.2.1 = -1) ∧ mwR h0 s.2.2 (mS h0) (mS h0) ∧ ((s.1 = -2 ∧ ∀ z, 300 < z + k → z ≤ 300 → ¬ slW (mS h0) n rl cs j z) ∨ (0 ≤ s.1 ∧ isS (slW (mS h0) n rl cs j) 300 s.1))) (fun x => ∃ r h2, x = (r, h2) ∧ isS (slW (mS h0) n rl cs j) 300 r ∧ sameJ h0 h2) ?_ ?_ (-2, 300, h) ⟨fun _ => rfl, fun z => by omega, hw, Or.inl ⟨rfl, fun z h1 h2 => by omega⟩⟩
  · obtain ⟨x, e, r, h2, rfl, q⟩ := key
    exact ⟨r, h2, e, q⟩
  · rintro k hk ⟨q0, q1, g⟩ ⟨e1, -, w, l⟩
    have e1 : q1 = nI (300 - k) := e1 (by omega)
    subst e1
    have w : mwR h0 g (mS h0) (mS h0) := w
    rcases l with ⟨e0, l⟩ | ⟨p0, l⟩
    · have e0 : q0 = -2 := e0
      subst e0
      left
      obtain ⟨g1, eg1, w1⟩ := m_goesW (z := 300 - k) w
      obtain ⟨b, g2, i, eg2, hb, w2⟩ := m_soon hj w1 (wOk_gb hv (by omega)) hf hr
      obtain ⟨g3, eg3, -, w3⟩ := m_backW w2 (fun t ht => by rw [wlk_o h8 ht i, gbW_o (by omega)])
      have run : f_M_slack_s21 (nI j) (-2) (nI (300 - k)) g = (if (if b then (1 : Int32) else 0) = 0 then f_M_slack_b44 (nI j) (-2) (nI (300 - k)) g2 else f_M_slack_b44 (nI j) (nI (300 - k)) (nI (300 - k)) g2) := by
        unfold f_M_slack_s21
        rw [if_neg (nI_pos (by omega)), if_neg (by decide), eg1, Option.bind_some, eg2, Option.bind_some]
      have b44 : ∀ v2, f_M_slack_b44 (nI j) v2 (nI (300 - k)) g2 = some (Sum.inl (v2, nI (300 - k) + (-1), g3)) := fun v2 => by
        unfold f_M_slack_b44
        rw [eg3, Option.bind_some]
        rfl
      rw [b44, b44] at run
      have dn : (k + 1 ≤ 300 → nI (300 - k) + (-1) = nI (300 - (k + 1))) ∧ (k + 1 = 301 → nI (300 - k) + (-1) = -1) := by
        refine ⟨fun q => ?_, fun q => ?_⟩
        · rw [show 300 - k = (300 - (k + 1)) + 1 by omega]
          exact pk_m1 _
        · rw [show 300 - k = 0 by omega]
          decide
      cases b with
      | true => exact ⟨(nI (300 - k), nI (300 - k) + (-1), g3), run.trans (if_neg (by decide)), dn.1, dn.2, w3, Or.inr ⟨nI_pos' (by omega), Or.inl ⟨300 - k, by omega, rfl, hb.mp rfl, fun z' h1 h2 => l z' (by omega) h2⟩⟩⟩
      | false =>
        refine ⟨(-2, nI (300 - k) + (-1), g3), run.trans (if_pos rfl), dn.1, dn.2, w3, Or.inl ⟨rfl, fun z h1 h2 => ?_⟩⟩
        by_cases q : z = 300 - k
        · subst q
          exact fun y => by have := hb.mpr y; cases this
        · exact l z (by omega) h2
    · right
      refine ⟨(q0, g), ?_, q0, g, rfl, l, mwJ g w⟩
      show f_M_slack_s21 (nI j) q0 (nI (300 - k)) g = _
      unfold f_M_slack_s21
      rw [if_neg (nI_pos (by omega)), if_pos p0]
  · rintro ⟨q0, q1, g⟩ ⟨-, e1, w, l⟩
    have e1 : q1 = -1 := e1 rfl
    subst e1
    have w : mwR h0 g (mS h0) (mS h0) := w
    refine ⟨(q0, g), ?_, q0, g, rfl, ?_, mwJ g w⟩
    · show f_M_slack_s21 (nI j) q0 (-1) g = _
      unfold f_M_slack_s21
      exact if_pos (by decide)
    · rcases l with ⟨e0, l⟩ | ⟨p0, l⟩
      · exact Or.inr ⟨e0, fun z hz => l z (by omega) hz⟩
      · exact l
theorem p_slack : lI_slack (jII Qr) := by
  intro a h hj
  obtain ⟨n, m, c, rl, cs, hsc, hf, hf4, hc, hr, hn⟩ := ask_pre hj
  obtain ⟨hv, ht, hst, -, -⟩ := id hsc
  have hw := wOk_v hv
  have h8 := hw.2.1
  have hmn : mN h n := ⟨hw.1, h8⟩
  have rf : ∀ h1 : xH, f_M_slack a h1 = (f_M_isInside_i a h1).bind (fun r1 => if r1 = 0 then some (-1, h1) else (f_M_keeps h1).bind (fun h6 => f_M_slack_l21 a (-2) 300 h6)) := fun _ => rfl
  have cl : f_B_slack a h = (f_State_isIn 0 a h).bind (fun r1 => if r1 = 0 then some (-1, h) else if xib a 8 then (f_Math_min 300 (((h.1 8 1 0) - (h.1 6 0 0)) - (h.2.2.2.1 32 0 a.toNatClampNeg)) h).bind (fun r6 => f_B_slack_l59 a r6 h) else none) := rfl
  obtain ⟨b, eM, eC, hb⟩ := in_both hmn hst a
  cases b with
  | false => exact ⟨-1, h, h, by rw [cl, eC]; rfl, by rw [rf, eM]; rfl, hj⟩
  | true =>
    obtain ⟨j, hjn, rfl, hin⟩ := hb rfl
    obtain ⟨-, -, ⟨D, hD3, hD⟩, -, -, -, -, -, -, -, vk, -⟩ := id hv
    obtain ⟨-, -, -, -, ⟨T, -, hT4, hT⟩, -⟩ := vk j hjn
    obtain ⟨em, hm⟩ := mn_e hw
    have late : ∀ z, z ≤ 300 → slW (mS h) n rl cs j z → mnV (mS h) + z + T ≤ D := fun z hz q => by
      have := slP_late (wOk_gb hw (by omega)) (show gbW (mS h) z 1 = nI D by rw [gbW_o (by decide)]; exact hD) hD3 (show gbW (mS h) z (44 + j) = nI T by rw [gbW_o (by omega)]; exact hT) hT4 q
      rw [mn_gb hw (by omega)] at this
      omega
    have e8 : h.1 8 1 0 = nI D := ht.2.1.trans hD
    have e6 : h.1 6 0 0 = nI (mnV (mS h)) := hst.1.trans em
    have e32 : h.2.2.2.1 32 0 j = nI T := ((hst.2.2.2.2 j hjn).2.2.2).trans hT
    have cC : ∃ (N : Nat) (r : Int32) (h2 : xH), f_B_slack (nI j) h = some (r, h2) ∧ isS (slW (mS h) n rl cs j) N r ∧ wkF h h2 ∧ N ≤ 300 ∧ ∀ z, z ≤ 300 → slW (mS h) n rl cs j z → z ≤ N := by
      rw [cl, eC, Option.bind_some]
      show ∃ (N : Nat) (r : Int32) (h2 : xH), (if (1 : Int32) = 0 then _ else _) = _ ∧ _
      rw [if_neg (by decide), if_pos (xibN (by omega) (by decide)), nI_clamp (by omega), e8, e6, e32]
      by_cases q : mnV (mS h) + T ≤ D
      · rw [pk_sub (by omega), pk_sub (by omega)]
        have mi : f_Math_min 300 (nI (D - mnV (mS h) - T)) h = some (nI (D - mnV (mS h) - T)) := by
          show (if nI (D - mnV (mS h) - T) < 300 then some _ else some 300) = _
          by_cases q2 : D - mnV (mS h) - T < 300
          · rw [if_pos (show nI (D - mnV (mS h) - T) < (300 : Int32) from nI_lt (b := 300) q2 (by decide))]
          · rw [if_neg (show ¬ nI (D - mnV (mS h) - T) < (300 : Int32) from nI_nlt (b := 300) (by omega) (by omega)), show D - mnV (mS h) - T = 300 by omega]
            rfl
        rw [mi, Option.bind_some]
        obtain ⟨r, h2, e, q1, q2⟩ := c_slack59 (N := D - mnV (mS h) - T) hjn (by omega) hsc hD hD3 hT hT4 hf4 hc hn
        exact ⟨_, r, h2, e, q1, q2, by omega, fun z hz y => by have := late z hz y; omega⟩
      · have neg : nI D - nI (mnV (mS h)) - nI T < 0 := by
          rw [Int32.lt_iff_toInt_lt, Int32.toInt_sub, pk_sub_toInt (by omega) (by omega), nI_toInt (by omega), Int.bmod_eq_of_le (by omega) (by omega)]
          show _ < (0 : Int)
          omega
        have mi : f_Math_min 300 (nI D - nI (mnV (mS h)) - nI T) h = some (nI D - nI (mnV (mS h)) - nI T) := by
          show (if nI D - nI (mnV (mS h)) - nI T < 300 then some _ else some 300) = _
          rw [if_pos (Int32.lt_trans neg (by decide))]
        have no : ∀ z, z ≤ 300 → ¬ slW (mS h) n rl cs j z := fun z hz y => by have := late z hz y; omega
        refine ⟨0, -2, h, ?_, Or.inr ⟨rfl, fun z hz => no z (by omega)⟩, wkF_refl h, by decide, fun z hz y => absurd y (no z hz)⟩
        rw [mi, Option.bind_some]
        apply whl_en
        show f_B_slack_s59 (nI j) _ h = _
        unfold f_B_slack_s59
        exact if_pos neg
    obtain ⟨N, r, g1, eg1, hs1, f1, hN, hN2⟩ := cC
    obtain ⟨eS, mf, mr⟩ := ask_mid f1 hf hr
    obtain ⟨k1, ek1, wk1⟩ := m_keepW (h := g1)
    obtain ⟨r', k2, ek2, hs2, j2⟩ := m_slack21 hjn wk1 (by rw [eS]; exact hw) mf mr
    rw [eS] at hs2
    have : r = r' := isS_u hN2 hN hs1 hs2
    subst this
    refine ⟨r, g1, k2, eg1, ?_, sameJ_jII Qr_ok (sameJ_trans (wkF_J f1) j2) hj⟩
    rw [rf, in_at eS hmn hjn hin, Option.bind_some, if_neg (by decide), ek1, Option.bind_some, ek2]
