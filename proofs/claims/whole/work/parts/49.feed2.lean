/-! PURE: feed -/
def putF (h h1 : xH) (f c k : Nat) : Prop := (∀ c' k' i, ¬ (c' = c ∧ k' = k) → h1.1 c' k' i = h.1 c' k' i) ∧ ∀ f' i, ¬ f' = f → h1.2.2.2.1 f' i = h.2.2.2.1 f' i
theorem putF_t {h h1 h2 : xH} {f c k : Nat} (a : putF h h1 f c k) (b : putF h1 h2 f c k) : putF h h2 f c k := ⟨fun c' k' i hn => (b.1 c' k' i hn).trans (a.1 c' k' i hn), fun f' i hn => (b.2 f' i hn).trans (a.2 f' i hn)⟩
theorem c_put1 {h : xH} {t : Nat} (v : Int32) (ht : h.1 7 6 0 = nI t) (t4 : t + 4 ≤ 400) : ∃ h1, f_Tape_put v h = some h1 ∧ h1.1 7 6 0 = nI (t + 4) ∧ h1.2.2.2.1 33 0 = wrB (h.2.2.2.1 33 0) t v 4 ∧ putF h h1 33 7 6 :=
  ⟨_, c_put ht t4, rdI_s, rdA_s, fun _ _ _ hn => rdI hn, fun _ _ hn => rdA_n (fun z => hn z.1)⟩
theorem m_put1 {h : xH} {t : Nat} (v : Int32) (ht : h.1 12 1 0 = nI t) (t4 : t + 4 ≤ 400) : ∃ h1, f_M_four v h = some h1 ∧ h1.1 12 1 0 = nI (t + 4) ∧ h1.2.2.2.1 47 0 = wrB (h.2.2.2.1 47 0) t v 4 ∧ putF h h1 47 12 1 :=
  ⟨_, m_four ht t4, rdI_s, rdA_s, fun _ _ _ hn => rdI hn, fun _ _ hn => rdA_n (fun z => hn z.1)⟩
theorem wrB_e {A B : Nat → Int32} {t : Nat} {v : Int32} (h : ∀ j, j < t → A j = B j ∧ (B j).toInt8.toInt32 = B j) : ∀ j, j < t + 4 → wrB A t v 4 j = wrB B t v 4 j ∧ (wrB B t v 4 j).toInt8.toInt32 = wrB B t v 4 j := by
  intro j hj
  unfold wrB
  by_cases q : t ≤ j ∧ j < t + 4
  · rw [if_pos q, if_pos q]
    refine ⟨rfl, ?_⟩
    unfold byV
    simp
  · rw [if_neg q, if_neg q]
    exact h j (by omega)
variable {Q : xH → Nat → Prop}
/-- feed -/
theorem p_feed (hQ : qOk Q) : lI_feed (jII Q) := by
  rintro a1 a2 a3 a4 a5 h ⟨R, hR, r1, r2, hj, hq⟩
  have keep : jII Q h := ⟨R, hR, r1, r2, hj, hq⟩
  obtain ⟨t, t1, t2, t3, t4⟩ := hj.1
  have cl : f_B_feed a1 a2 a3 a4 a5 h = (if (400 : Int32) < h.1 7 6 0 + 20 then some (0 : Int32) else some 1).bind (fun r1 => if r1 = 0 then some (-1, h) else (f_Tape_put a1 h).bind (fun h6 => (f_Tape_put a2 h6).bind (fun h9 => (f_Tape_put a3 h9).bind (fun h12 => (f_Tape_put a4 h12).bind (fun h15 => (f_Tape_put a5 h15).bind (fun h18 => some (h18.1 7 6 0, h18))))))) := rfl
  have rf : ∀ g : xH, f_M_feed a1 a2 a3 a4 a5 g = (if g.1 12 1 0 + 20 ≤ (400 : Int32) then (f_M_four a1 g).bind (fun h4 => (f_M_four a2 h4).bind (fun h7 => (f_M_four a3 h7).bind (fun h10 => (f_M_four a4 h10).bind (fun h13 => (f_M_four a5 h13).bind (fun h16 => some (h16.1 12 1 0, h16)))))) else some (-1, g)) := fun _ => rfl
  have e20 : nI t + 20 = nI (t + 20) := nI_add t 20
  by_cases t20 : t + 20 ≤ 400
  · obtain ⟨g1, b1, c1, d1, f1⟩ := c_put1 a1 t2 (by omega)
    obtain ⟨g2, b2, c2, d2, f2⟩ := c_put1 a2 c1 (by omega)
    obtain ⟨g3, b3, c3, d3, f3⟩ := c_put1 a3 c2 (by omega)
    obtain ⟨g4, b4, c4, d4, f4⟩ := c_put1 a4 c3 (by omega)
    obtain ⟨g5, b5, c5, d5, f5⟩ := c_put1 a5 c4 (by omega)
    have F := putF_t f1 (putF_t f2 (putF_t f3 (putF_t f4 f5)))
    have k0 : g5.1 12 1 0 = nI t := by rw [F.1 12 1 0 (by decide)]; exact t3
    obtain ⟨k1, B1, C1, D1, F1⟩ := m_put1 a1 k0 (by omega)
    obtain ⟨k2, B2, C2, D2, F2⟩ := m_put1 a2 C1 (by omega)
    obtain ⟨k3, B3, C3, D3, F3⟩ := m_put1 a3 C2 (by omega)
    obtain ⟨k4, B4, C4, D4, F4⟩ := m_put1 a4 C3 (by omega)
    obtain ⟨k5, B5, C5, D5, F5⟩ := m_put1 a5 C4 (by omega)
    have G := putF_t F1 (putF_t F2 (putF_t F3 (putF_t F4 F5)))
    have eI : ∀ c k i, ¬ (c = 7 ∧ k = 6) → ¬ (c = 12 ∧ k = 1) → k5.1 c k i = h.1 c k i := fun c k i p q => (G.1 c k i q).trans (F.1 c k i p)
    have eA : ∀ f, f ≠ 33 → f ≠ 47 → k5.2.2.2.1 f = h.2.2.2.1 f := fun f p q => funext fun i => (G.2 f i q).trans (F.2 f i p)
    refine ⟨nI (t + 20), g5, k5, ?_, ?_, R, hR, by rw [eI 11 5 0 (by decide) (by decide)]; exact r1, by rw [eI 12 2 0 (by decide) (by decide)]; exact r2, jI_same ⟨fun k i => eI 6 k i (by omega) (by omega), fun k i => eI 8 k i (by omega) (by omega), fun i => eI 4 4 i (by decide) (by decide), fun f p q => eA f p q, fun k => eI 1 k 0 (by omega) (by omega), eI 12 24 0 (by decide) (by decide), fun i _ => ⟨eI 4 2 i (by decide) (by decide), eI 4 3 i (by decide) (by decide)⟩⟩ ⟨t + 20, t20, ?_, C5, ?_⟩ ?_ hj, hQ h _ R ⟨fun k i => eI 2 k i (by omega) (by omega), eA 18 (by decide) (by decide), eA 48 (by decide) (by decide), fun j _ => by rw [eA 49 (by decide) (by decide)], eA 50 (by decide) (by decide), eA 51 (by decide) (by decide)⟩ hq⟩
    · rw [cl, t2, e20, if_neg (show ¬ (400 : Int32) < nI (t + 20) from (nI_nlt (a := 400) t20 (by decide) : ¬ nI 400 < nI (t + 20)))]
      show (f_Tape_put a1 h).bind _ = _
      rw [b1]
      show (f_Tape_put a2 g1).bind _ = _
      rw [b2]
      show (f_Tape_put a3 g2).bind _ = _
      rw [b3]
      show (f_Tape_put a4 g3).bind _ = _
      rw [b4]
      show (f_Tape_put a5 g4).bind _ = _
      rw [b5]
      show some (g5.1 7 6 0, g5) = _
      rw [c5]
    · rw [rf, k0, e20, if_pos (show nI (t + 20) ≤ (400 : Int32) from (nI_le t20 (by decide) : nI (t + 20) ≤ nI 400)), B1]
      show (f_M_four a2 k1).bind _ = _
      rw [B2]
      show (f_M_four a3 k2).bind _ = _
      rw [B3]
      show (f_M_four a4 k3).bind _ = _
      rw [B4]
      show (f_M_four a5 k4).bind _ = _
      rw [B5]
      show some (k5.1 12 1 0, k5) = _
      rw [C5]
    · rw [G.1 7 6 0 (by decide)]; exact c5
    · rw [G.2 33 0 (by decide), d5, d4, d3, d2, d1, D5, D4, D3, D2, D1, F.2 47 0 (by decide)]
      exact wrB_e (wrB_e (wrB_e (wrB_e (wrB_e t4))))
    · obtain ⟨f1, f2, f3, f4⟩ := hj.2.1
      unfold fxR
      rw [eI 4 2 0 (by decide) (by decide), eI 4 3 0 (by decide) (by decide), eI 12 21 0 (by decide) (by decide), eI 12 22 0 (by decide) (by decide)]
      exact ⟨f1, f2, f3, f4⟩
  · refine ⟨-1, h, h, ?_, ?_, keep⟩
    · rw [cl, t2, e20, if_pos (show (400 : Int32) < nI (t + 20) from (nI_lt (by omega) (by omega) : nI 400 < nI (t + 20)))]
      rfl
    · rw [rf, t3, e20, if_neg (show ¬ nI (t + 20) ≤ (400 : Int32) from (nI_ge (by omega) (by omega) : ¬ nI (t + 20) ≤ nI 400))]
