/-! PURE: who carries what; the class's tables -/
theorem nsum_0 {f : Nat → Nat} {p : Nat → Bool} : ∀ {n : Nat}, (∀ k, k < n → p k = false) → nsum f p n = 0
  | 0, _ => rfl
  | n + 1, h => by
    show nsum f p n + (if p n then f n else 0) = 0
    rw [nsum_0 (fun k hk => h k (by omega)), h n (by omega)]
    rfl
theorem ld_z {w : Nat → Nat} {c : Nat} : ldk w (fun _ => 0) (c + 1) 8 = 0 := nsum_0 (fun o _ => decide_eq_false (show ¬ (0 : Nat) = c + 1 by omega))
theorem b255 : ∀ o, o < 8 → (255 : Nat).testBit o = true := by decide
theorem dif_bit {S P o : Nat} (hS : S < 256) : (S &&& (255 ^^^ P)).testBit o = (S.testBit o && !P.testBit o) := by
  rw [Nat.testBit_and, Nat.testBit_xor]
  cases hb : S.testBit o with
  | false => rfl
  | true =>
    rw [b255 o (bit_hi hS hb)]
    cases P.testBit o <;> rfl
theorem dif_lt {S P : Nat} (hS : S < 256) : S &&& (255 ^^^ P) < 256 := Nat.lt_of_le_of_lt Nat.and_le_left hS
/-- just these are borne by the first c -/
def brn (w s : Nat → Nat) (c S : Nat) : Prop := ∃ a : Nat → Nat, (∀ o, a o ≠ 0 ↔ S.testBit o = true) ∧ (∀ o, a o ≤ c) ∧ ∀ c', c' < c → ldk w a (c' + 1) 8 ≤ s c'
theorem brn_0 {w s : Nat → Nat} {S : Nat} : brn w s 0 S ↔ S = 0 := by
  constructor
  · rintro ⟨a, h1, h2, -⟩
    apply Nat.eq_of_testBit_eq
    intro o
    rw [Nat.zero_testBit]
    cases hb : S.testBit o with
    | false => rfl
    | true =>
      have := (h1 o).mpr hb
      have := h2 o
      omega
  · rintro rfl
    exact ⟨fun _ => 0, fun o => ⟨fun z => absurd rfl z, fun z => by (rw [Nat.zero_testBit] at z; cases z)⟩, fun _ => Nat.le_refl _, fun c' h => absurd h (by omega)⟩
theorem wt_bs {w : Nat → Nat} {p : Nat → Bool} : wt w (bs p 8) = nsum w p 8 := nsum_congr (fun k hk => ⟨bs_in hk, fun _ => rfl⟩)
theorem brn_r {w s : Nat → Nat} {c S : Nat} (hS : S < 256) : brn w s (c + 1) S ↔ brn w s c S ∨ ∃ P, P &&& S = P ∧ P ≠ 0 ∧ wt w P ≤ s c ∧ brn w s c (S &&& (255 ^^^ P)) := by
  constructor
  · rintro ⟨a, h1, h2, h3⟩
    by_cases q : ∀ o, a o ≠ c + 1
    · exact Or.inl ⟨a, h1, fun o => by have := h2 o; have := q o; omega, fun c' hc => h3 c' (by omega)⟩
    · right
      obtain ⟨o0, ho0⟩ : ∃ o, a o = c + 1 := Classical.byContradiction (fun z => q (fun o y => z ⟨o, y⟩))
      have o8 : o0 < 8 := bit_hi hS ((h1 o0).mp (by omega))
      have eb : ∀ o, (bs (fun o => decide (a o = c + 1)) 8).testBit o = true ↔ a o = c + 1 := fun o => by
        rw [bs_bit, Bool.and_eq_true, decide_eq_true_iff, decide_eq_true_iff]
        exact ⟨fun z => z.2, fun z => ⟨bit_hi hS ((h1 o).mp (by omega)), z⟩⟩
      refine ⟨bs (fun o => decide (a o = c + 1)) 8, ?_, fun z => ?_, ?_, fun o => if a o = c + 1 then 0 else a o, fun o => ?_, fun o => ?_, fun c' hc => ?_⟩
      · apply Nat.eq_of_testBit_eq
        intro o
        rw [Nat.testBit_and]
        cases hb : (bs (fun o => decide (a o = c + 1)) 8).testBit o with
        | false => rfl
        | true =>
          have := (eb o).mp hb
          rw [(h1 o).mp (by omega)]
          rfl
      · have := (eb o0).mpr ho0
        rw [z, Nat.zero_testBit] at this
        cases this
      · rw [wt_bs]
        exact h3 c (by omega)
      · show (if a o = c + 1 then 0 else a o) ≠ 0 ↔ _
        rw [dif_bit hS, Bool.and_eq_true, Bool.not_eq_true']
        by_cases z : a o = c + 1
        · rw [if_pos z, (eb o).mpr z]
          exact ⟨fun y => absurd rfl y, fun y => absurd y.2 (by decide)⟩
        · rw [if_neg z]
          have : (bs (fun o => decide (a o = c + 1)) 8).testBit o = false := by
            cases hb : (bs (fun o => decide (a o = c + 1)) 8).testBit o with
            | false => rfl
            | true => exact absurd ((eb o).mp hb) z
          rw [this]
          exact ⟨fun y => ⟨(h1 o).mp y, rfl⟩, fun y => (h1 o).mpr y.1⟩
      · show (if a o = c + 1 then 0 else a o) ≤ c
        by_cases z : a o = c + 1
        · rw [if_pos z]; exact Nat.zero_le _
        · rw [if_neg z]
          have := h2 o
          omega
      · have : ldk w (fun o => if a o = c + 1 then 0 else a o) (c' + 1) 8 = ldk w a (c' + 1) 8 := nsum_congr (fun o _ => ⟨by
          show decide ((if a o = c + 1 then 0 else a o) = c' + 1) = decide (a o = c' + 1)
          by_cases z : a o = c + 1
          · rw [if_pos z, z, decide_eq_false (by omega), decide_eq_false (by omega)]
          · rw [if_neg z], fun _ => rfl⟩)
        rw [this]
        exact h3 c' (by omega)
  · rintro (⟨a, h1, h2, h3⟩ | ⟨P, p1, p2, p3, a, h1, h2, h3⟩)
    · refine ⟨a, h1, fun o => Nat.le_succ_of_le (h2 o), fun c' hc => ?_⟩
      by_cases z : c' = c
      · subst z
        have : ldk w a (c' + 1) 8 = 0 := nsum_0 (fun o _ => decide_eq_false (by have := h2 o; omega))
        omega
      · exact h3 c' (by omega)
    · have pS : ∀ o, P.testBit o = true → S.testBit o = true := fun o z => by
        rw [← p1, Nat.testBit_and, Bool.and_eq_true] at z
        exact z.2
      refine ⟨fun o => if P.testBit o = true then c + 1 else a o, fun o => ?_, fun o => ?_, fun c' hc => ?_⟩
      · show (if P.testBit o = true then c + 1 else a o) ≠ 0 ↔ _
        by_cases z : P.testBit o = true
        · rw [if_pos z, pS o z]
          exact ⟨fun _ => rfl, fun _ => by omega⟩
        · rw [if_neg z, h1 o, dif_bit hS]
          have : P.testBit o = false := by
            cases hb : P.testBit o with
            | false => rfl
            | true => exact absurd hb z
          rw [this]
          cases S.testBit o <;> exact Iff.rfl
      · show (if P.testBit o = true then c + 1 else a o) ≤ c + 1
        by_cases z : P.testBit o = true
        · rw [if_pos z]; exact Nat.le_refl _
        · rw [if_neg z]; exact Nat.le_succ_of_le (h2 o)
      · by_cases z : c' = c
        · subst z
          have : ldk w (fun o => if P.testBit o = true then c' + 1 else a o) (c' + 1) 8 = wt w P := nsum_congr (fun o _ => ⟨by
            show decide ((if P.testBit o = true then c' + 1 else a o) = c' + 1) = P.testBit o
            cases hb : P.testBit o with
            | true => rw [if_pos rfl]; exact decide_eq_true rfl
            | false => rw [if_neg (by decide)]; exact decide_eq_false (by have := h2 o; omega), fun _ => rfl⟩)
          rw [this]
          exact p3
        · have : ldk w (fun o => if P.testBit o = true then c + 1 else a o) (c' + 1) 8 = ldk w a (c' + 1) 8 := nsum_congr (fun o _ => ⟨by
            show decide ((if P.testBit o = true then c + 1 else a o) = c' + 1) = decide (a o = c' + 1)
            cases hb : P.testBit o with
            | true =>
              rw [if_pos rfl, decide_eq_false (by omega), decide_eq_false]
              intro y
              have := (h1 o).mp (by omega)
              rw [dif_bit hS, hb, Bool.not_true, Bool.and_false] at this
              cases this
            | false => rw [if_neg (by decide)], fun _ => rfl⟩)
          rw [this]
          exact h3 c' (by omega)
/-- a sharing out of some of R within the strengths -/
def asg (w s : Nat → Nat) (R : Nat) (a : Nat → Nat) : Prop := (∀ o, a o ≠ 0 → R.testBit o = true) ∧ (∀ o, a o ≤ 4) ∧ ∀ c, c < 4 → ldk w a (c + 1) 8 ≤ s c
def isM (w s : Nat → Nat) (R v : Nat) : Prop := (∃ a, asg w s R a ∧ vN w a 8 = v) ∧ ∀ a, asg w s R a → vN w a 8 ≤ v
theorem isM_u {w s : Nat → Nat} {R v v' : Nat} (a : isM w s R v) (b : isM w s R v') : v = v' := by
  obtain ⟨⟨x, x1, x2⟩, x3⟩ := a
  obtain ⟨⟨y, y1, y2⟩, y3⟩ := b
  have := x3 y y1
  have := y3 x x1
  omega
theorem asg_S {w s : Nat → Nat} {R : Nat} {a : Nat → Nat} (hR : R < 256) (h : asg w s R a) : ∃ S, S < 256 ∧ S &&& R = S ∧ brn w s 4 S ∧ wt w S = vN w a 8 := by
  have eb : ∀ o, a o ≠ 0 ↔ (bs (fun o => decide (a o ≠ 0)) 8).testBit o = true := fun o => by
    rw [bs_bit, Bool.and_eq_true, decide_eq_true_iff, decide_eq_true_iff]
    exact ⟨fun z => ⟨bit_hi hR (h.1 o z), z⟩, fun z => z.2⟩
  refine ⟨bs (fun o => decide (a o ≠ 0)) 8, bs_lt8 _ (Nat.le_refl _), ?_, ⟨a, eb, h.2.1, h.2.2⟩, wt_bs⟩
  apply Nat.eq_of_testBit_eq
  intro o
  rw [Nat.testBit_and]
  cases hb : (bs (fun o => decide (a o ≠ 0)) 8).testBit o with
  | false => rfl
  | true =>
    rw [h.1 o ((eb o).mpr hb)]
    rfl
theorem S_asg {w s : Nat → Nat} {R S : Nat} (hs : S &&& R = S) (h : brn w s 4 S) : ∃ a, asg w s R a ∧ vN w a 8 = wt w S := by
  obtain ⟨a, h1, h2, h3⟩ := h
  refine ⟨a, ⟨fun o z => ?_, h2, h3⟩, nsum_congr (fun o _ => ⟨?_, fun _ => rfl⟩)⟩
  · have := (h1 o).mp z
    rw [← hs, Nat.testBit_and, Bool.and_eq_true] at this
    exact this.2
  · show decide (a o ≠ 0) = S.testBit o
    cases hb : S.testBit o with
    | true => exact decide_eq_true ((h1 o).mpr hb)
    | false => exact decide_eq_false (fun z => by rw [(h1 o).mp z] at hb; cases hb)
theorem c_canAdd {h : xH} {S sc : Nat} {w : Nat → Nat} {Q : Nat → Prop} (hS : S < 256) (hsc : sc ≤ 60) (hw : ∀ P, P < 256 → P &&& S = P → h.2.2.2.1 15 0 P = nI (wt w P) ∧ wt w P ≤ 160) (hQ : ∀ P, P < 256 → P &&& S = P → P ≠ 0 → h.2.2.2.1 16 0 (S &&& (255 ^^^ P)) = ind (Q (S &&& (255 ^^^ P)))) : f_Bearing_canAddTo (nI S) (nI sc) h = some (ind (∃ P, P &&& S = P ∧ P ≠ 0 ∧ wt w P ≤ sc ∧ Q (S &&& (255 ^^^ P)))) := by
  have sub8 : ∀ P, P &&& S = P → P < 256 := fun P z => by rw [← z]; exact and_lt8 hS
  have key := whl_inv (step := fun s : Int32 => f_Bearing_canAddTo_s2 (nI S) (nI sc) s h) (fun s => ∃ part, s = nI part ∧ part &&& S = part ∧ ∀ P, P &&& S = P → part < P → ¬ (wt w P ≤ sc ∧ Q (S &&& (255 ^^^ P)))) (fun s => s.toNatClampNeg) (fun x => x = ind (∃ P, P &&& S = P ∧ P ≠ 0 ∧ wt w P ≤ sc ∧ Q (S &&& (255 ^^^ P)))) ?_ (nI S) ⟨S, rfl, Nat.and_self S, fun P z y => by
    have : P ≤ S := by rw [← z]; exact Nat.and_le_right
    omega⟩
  · obtain ⟨x, e, rfl⟩ := key
    exact e
  · rintro s ⟨part, rfl, hp, l⟩
    have p8 := sub8 part hp
    by_cases p0 : part = 0
    · subst p0
      right
      refine ⟨0, ?_, ?_⟩
      · unfold f_Bearing_canAddTo_s2
        rw [if_pos (by decide)]
      · rw [ind_f]
        rintro ⟨P, y1, y2, y3⟩
        exact l P y1 (by omega) y3
    · have xp : xib (nI part) 256 := xibN p8 (by decide)
      have d8 : S &&& (255 ^^^ part) < 256 := dif_lt hS
      obtain ⟨w1, w2⟩ := hw part p8 hp
      have e15 : h.2.2.2.1 15 0 (nI part).toNatClampNeg = nI (wt w part) := by rw [nI_clamp (by omega)]; exact w1
      have e16 : h.2.2.2.1 16 0 (nI (S &&& (255 ^^^ part))).toNatClampNeg = ind (Q (S &&& (255 ^^^ part))) := by rw [nI_clamp (by omega)]; exact hQ part p8 hp p0
      have nx : (nI part - 1) &&& nI S = nI ((part - 1) &&& S) := by
        rw [show nI part - 1 = nI (part - 1) by rw [show part = (part - 1) + 1 by omega]; exact nI_pred _, sb_and _ (by omega) _ hS]
      have s0 : f_Bearing_canAddTo_s2 (nI S) (nI sc) (nI part) h = (if nI part ≤ 0 then some (Sum.inr 0) else if xib (nI part) 256 then (if nI sc < h.2.2.2.1 15 0 (nI part).toNatClampNeg then some (Sum.inl ((nI part - 1) &&& nI S)) else if xib (nI S &&& (nI part ^^^ (-1))) 256 then (if h.2.2.2.1 16 0 (nI S &&& (nI part ^^^ (-1))).toNatClampNeg = 0 then some (Sum.inl ((nI part - 1) &&& nI S)) else some (Sum.inr 1)) else none) else none) := rfl
      rw [if_neg (nI_nle (by omega) (by omega)), if_pos xp, e15, sb_dif S hS part p8, if_pos (xibN d8 (by decide)), e16, nx] at s0
      have step : ¬ (wt w part ≤ sc ∧ Q (S &&& (255 ^^^ part))) → (∃ s', f_Bearing_canAddTo_s2 (nI S) (nI sc) (nI part) h = some (Sum.inl s') ∧ (∃ part', s' = nI part' ∧ part' &&& S = part' ∧ ∀ P, P &&& S = P → part' < P → ¬ (wt w P ≤ sc ∧ Q (S &&& (255 ^^^ P)))) ∧ s'.toNatClampNeg < (nI part).toNatClampNeg) := by
        intro z
        have lt : (part - 1) &&& S < part := Nat.lt_of_le_of_lt Nat.and_le_left (by omega)
        refine ⟨nI ((part - 1) &&& S), ?_, ⟨(part - 1) &&& S, rfl, by rw [Nat.and_assoc, Nat.and_self], fun P y1 y2 => ?_⟩, by rw [nI_clamp (by omega), nI_clamp (by omega)]; exact lt⟩
        · rw [s0]
          by_cases y : sc < wt w part
          · rw [if_pos (nI_lt y (by omega))]
          · rw [if_neg (nI_nlt (by omega) (by omega)), ind_f (fun u => z ⟨by omega, u⟩), if_pos rfl]
        · rcases Nat.lt_trichotomy P part with u | u | u
          · exfalso
            have := sm_gap hS p8 hp (P - ((part - 1) &&& S) - 1) (by omega)
            rw [show ((part - 1) &&& S) + 1 + (P - ((part - 1) &&& S) - 1) = P by omega] at this
            exact this y1
          · rw [u]; exact z
          · exact l P y1 u
      by_cases z : wt w part ≤ sc ∧ Q (S &&& (255 ^^^ part))
      · right
        refine ⟨1, ?_, by rw [ind_t ⟨part, hp, p0, z⟩]⟩
        rw [s0, if_neg (nI_nlt z.1 (by omega)), ind_t z.2, if_neg (by decide)]
      · left
        exact step z
/-- the weights of sets are told -/
def wTb (h : xH) (I : Nat) (w : Nat → Nat) : Prop := ∀ S, S < 256 → S &&& I = S → h.2.2.2.1 15 0 S = nI (wt w S) ∧ wt w S ≤ 160
theorem sub_tr {P S R : Nat} (h1 : P &&& S = P) (h2 : S &&& R = S) : P &&& R = P := by
  rw [← h1, Nat.and_assoc, h2]
theorem dif_sub {S P R : Nat} (h2 : S &&& R = S) : (S &&& (255 ^^^ P)) &&& R = S &&& (255 ^^^ P) := by
  rw [Nat.and_assoc, Nat.and_comm (255 ^^^ P), ← Nat.and_assoc, h2]
theorem c_most41 {h : xH} {I R c : Nat} {w s : Nat → Nat} {B : Nat → Int32} (hR : R < 256) (hRI : R &&& I = R) (hc : c < 4) (hw : wTb h I w) (e14 : h.2.2.2.1 14 0 c = nI (s c)) (s60 : s c ≤ 60) (hB : ∀ S, S < 256 → B S = ind (S &&& R = S ∧ brn w s c S)) : ∃ B', f_Bearing_mostOf_l41 (nI R) (nI c) 255 (xsA h 16 0 B) = some (Sum.inl (nI (c + 1), xsA h 16 0 B')) ∧ ∀ S, S < 256 → B' S = ind (S &&& R = S ∧ brn w s (c + 1) S) := by
  have key := whl_cntE (step := fun x : Int32 × xH => f_Bearing_mostOf_s41 (nI R) (nI c) x.1 x.2) 255 (fun k x => x.1 = nI (255 - k) ∧ ∃ B', x.2 = xsA h 16 0 B' ∧ (∀ S, S < 256 → 255 - k < S → B' S = ind (S &&& R = S ∧ brn w s (c + 1) S)) ∧ ∀ S, S ≤ 255 - k → B' S = ind (S &&& R = S ∧ brn w s c S)) (fun y => ∃ B', y = Sum.inl (nI (c + 1), xsA h 16 0 B') ∧ ∀ S, S < 256 → B' S = ind (S &&& R = S ∧ brn w s (c + 1) S)) ?_ ?_ (255, xsA h 16 0 B) ⟨rfl, B, rfl, fun S h1 h2 => by omega, fun S h1 => hB S (by omega)⟩
  · obtain ⟨y, e, B', rfl, q⟩ := key
    exact ⟨B', e, q⟩
  · rintro k hk ⟨q1, g⟩ ⟨e1, B1, eg, l1, l2⟩
    have e1 : q1 = nI (255 - k) := e1
    have eg : g = xsA h 16 0 B1 := eg
    subst e1
    subst eg
    left
    obtain ⟨S, hSd⟩ : ∃ S, S = 255 - k := ⟨_, rfl⟩
    rw [← hSd] at l1 l2 ⊢
    have S8 : S < 256 := by omega
    have S0 : S ≠ 0 := by omega
    have dn : nI S + (-1) = nI (255 - (k + 1)) := by
      rw [show S = (255 - (k + 1)) + 1 by omega]
      exact pk_m1 _
    have cS : (nI S).toNatClampNeg = S := nI_clamp (by omega)
    have xS : xib (nI S) 256 := xibN S8 (by decide)
    have s0 : f_Bearing_mostOf_s41 (nI R) (nI c) (nI S) (xsA h 16 0 B1) = (if nI S ≤ 0 then xup (f_Bearing_mostOf_b85 (nI R) (nI c) (xsA h 16 0 B1)) else if nI S &&& (nI R ^^^ (-1)) = 0 then (if xib (nI S) 256 then (if (xsA h 16 0 B1).2.2.2.1 16 0 (nI S).toNatClampNeg = 0 then (if xib (nI c) 4 then (f_Bearing_canAddTo (nI S) ((xsA h 16 0 B1).2.2.2.1 14 0 (nI c).toNatClampNeg) (xsA h 16 0 B1)).bind (fun r16 => if xib (nI S) 256 then (if r16 = 0 ∨ r16 = 1 then some (Sum.inl (nI S + (-1), xsA (xsA h 16 0 B1) 16 0 (upd ((xsA h 16 0 B1).2.2.2.1 16 0) (nI S).toNatClampNeg r16))) else none) else none) else none) else some (Sum.inl (nI S + (-1), xsA h 16 0 B1))) else none) else some (Sum.inl (nI S + (-1), xsA h 16 0 B1))) := rfl
    have r16 : (xsA h 16 0 B1).2.2.2.1 16 0 (nI S).toNatClampNeg = ind (S &&& R = S ∧ brn w s c S) := by rw [rdA_s, cS]; exact l2 S (Nat.le_refl _)
    have r14 : (xsA h 16 0 B1).2.2.2.1 14 0 (nI c).toNatClampNeg = nI (s c) := by rw [rdA_n (by decide), nI_clamp (by omega)]; exact e14
    rw [if_neg (nI_nle (by omega) (by omega)), if_pos xS, r16, r14, if_pos (xibN hc (by decide)), dn] at s0
    have stay : (B1 S = ind (S &&& R = S ∧ brn w s (c + 1) S)) → f_Bearing_mostOf_s41 (nI R) (nI c) (nI S) (xsA h 16 0 B1) = some (Sum.inl (nI (255 - (k + 1)), xsA h 16 0 B1)) → ∃ s', f_Bearing_mostOf_s41 (nI R) (nI c) (nI S) (xsA h 16 0 B1) = some (Sum.inl s') ∧ s'.1 = nI (255 - (k + 1)) ∧ ∃ B', s'.2 = xsA h 16 0 B' ∧ (∀ S, S < 256 → 255 - (k + 1) < S → B' S = ind (S &&& R = S ∧ brn w s (c + 1) S)) ∧ ∀ S, S ≤ 255 - (k + 1) → B' S = ind (S &&& R = S ∧ brn w s c S) := by
      intro y1 y2
      refine ⟨_, y2, rfl, B1, rfl, fun S' h1 h2 => ?_, fun S' h1 => l2 S' (by omega)⟩
      by_cases z : S' = S
      · subst z; exact y1
      · exact l1 S' h1 (by omega)
    by_cases q : S &&& R = S
    · rw [if_pos ((sb_sub S S8 R hR).mpr q)] at s0
      by_cases q2 : brn w s c S
      · refine stay ?_ (by rw [s0, ind_t ⟨q, q2⟩, if_neg (by decide)])
        rw [l2 S (Nat.le_refl _), ind_t ⟨q, q2⟩, ind_t ⟨q, (brn_r S8).mpr (Or.inl q2)⟩]
      · have ca := c_canAdd (h := xsA h 16 0 B1) (S := S) (sc := s c) (w := w) (Q := fun X => brn w s c X) S8 s60 (fun P hP hs => by rw [rdA_n (by decide)]; exact hw P hP (sub_tr (sub_tr hs q) hRI)) (fun P hP hs h0 => by
          have lt : S &&& (255 ^^^ P) < S := by
            have le : S &&& (255 ^^^ P) ≤ S := Nat.and_le_left
            rcases Nat.lt_or_ge (S &&& (255 ^^^ P)) S with y | y
            · exact y
            · exfalso
              have eq : S &&& (255 ^^^ P) = S := by omega
              apply h0
              apply Nat.eq_of_testBit_eq
              intro o
              rw [Nat.zero_testBit]
              cases hb : P.testBit o with
              | false => rfl
              | true =>
                have so : S.testBit o = true := by
                  rw [← hs, Nat.testBit_and, Bool.and_eq_true] at hb
                  exact hb.2
                have := dif_bit (P := P) (o := o) S8
                rw [eq, so, hb] at this
                cases this
          rw [rdA_s, l2 _ (by omega)]
          apply ind_c
          exact ⟨fun y => y.2, fun y => ⟨dif_sub q, y⟩⟩)
        rw [ind_f (fun y => q2 y.2), if_pos rfl, ca, Option.bind_some, if_pos xS, if_pos ind_01, rdA_s, cS, xsA_2] at s0
        refine ⟨_, s0, rfl, _, rfl, fun S' h1 h2 => ?_, fun S' h1 => by rw [pk_un (by omega)]; exact l2 S' (by omega)⟩
        by_cases z : S' = S
        · subst z
          rw [pk_us]
          apply ind_c
          rw [brn_r S8]
          exact ⟨fun y => ⟨q, Or.inr y⟩, fun y => y.2.resolve_left q2⟩
        · rw [pk_un z]
          exact l1 S' h1 (by omega)
    · rw [if_neg (fun z => q ((sb_sub S S8 R hR).mp z))] at s0
      refine stay ?_ s0
      rw [l2 S (Nat.le_refl _), ind_f (fun y => q y.1), ind_f (fun y => q y.1)]
  · rintro ⟨q1, g⟩ ⟨e1, B1, eg, l1, l2⟩
    have e1 : q1 = nI 0 := e1
    have eg : g = xsA h 16 0 B1 := eg
    subst e1
    subst eg
    refine ⟨_, ?_, B1, rfl, fun S hS => ?_⟩
    · show f_Bearing_mostOf_s41 (nI R) (nI c) (nI 0) (xsA h 16 0 B1) = _
      unfold f_Bearing_mostOf_s41 f_Bearing_mostOf_b85
      rw [if_pos (by decide), xlet_e, nI_1]
      rfl
    · by_cases z : S = 0
      · subst z
        rw [l2 0 (Nat.zero_le _)]
        apply ind_c
        exact ⟨fun y => ⟨y.1, (brn_r (by decide)).mpr (Or.inl y.2)⟩, fun y => ⟨y.1, ⟨fun _ => 0, fun o => ⟨fun u => absurd rfl u, fun u => by (rw [Nat.zero_testBit] at u; cases u)⟩, fun _ => Nat.zero_le _, fun c' hc' => by rw [ld_z]; exact Nat.zero_le _⟩⟩⟩
      · exact l1 S hS (by omega)
theorem c_mostOf {h : xH} {I R : Nat} {w s : Nat → Nat} (hR : R < 256) (hRI : R &&& I = R) (hw : wTb h I w) (e14 : ∀ c, c < 4 → h.2.2.2.1 14 0 c = nI (s c) ∧ s c ≤ 60) : ∃ v B, f_Bearing_mostOf (nI R) h = some (nI v, xsA h 16 0 B) ∧ isM w s R v ∧ v ≤ 160 := by
  -- the beginning
  have init : ∃ B, f_Bearing_mostOf (nI R) h = f_Bearing_mostOf_l32 (nI R) 0 (xsA h 16 0 B) ∧ ∀ S, S < 256 → B S = ind (S &&& R = S ∧ brn w s 0 S) := by
    have go : ∀ k, k ≤ 256 → ∃ B, f_Bearing_mostOf (nI R) h = f_Bearing_mostOf_l2 (nI R) (nI k) (xsA h 16 0 B) ∧ ∀ S, S < k → B S = ind (S &&& R = S ∧ brn w s 0 S) := by
      intro k
      induction k with
      | zero => exact fun _ => ⟨h.2.2.2.1 16 0, by rw [xsA_id]; rfl, fun S hS => absurd hS (by omega)⟩
      | succ k ih =>
        intro hk
        obtain ⟨B, e, l⟩ := ih (by omega)
        have b23 : ∀ t0, (t0 = 0 ∨ t0 = 1) → f_Bearing_mostOf_b23 (nI R) (nI k) t0 (nI k) (xsA h 16 0 B) = some (Sum.inl (nI (k + 1), xsA h 16 0 (upd B k t0))) := fun t0 ht => by
          unfold f_Bearing_mostOf_b23
          rw [if_pos (xibN (by omega) (by decide)), if_pos ht, nI_clamp (by omega), rdA_s, xsA_2, xlet_e, xlet_e, nI_1]
        refine ⟨upd B k (ind (k = 0)), ?_, fun S hS => ?_⟩
        · rw [e]
          apply whl_st
          show f_Bearing_mostOf_s2 (nI R) (nI k) (xsA h 16 0 B) = _
          unfold f_Bearing_mostOf_s2
          rw [if_neg (show ¬ (256 : Int32) ≤ nI k from nI_ge (b := 256) (by omega) (by decide)), b23 1 (Or.inr rfl), b23 0 (Or.inl rfl)]
          by_cases z : k = 0
          · rw [z, if_pos nI_0, ind_t rfl]
          · rw [if_neg (nI_ne0 (by omega) (by omega)), ind_f z]
        · by_cases z : S = k
          · subst z
            rw [pk_us]
            apply ind_c
            rw [brn_0]
            exact ⟨fun y => ⟨by rw [y]; exact Nat.zero_and R, y⟩, fun y => y.2⟩
          · rw [pk_un z]
            exact l S (by omega)
    obtain ⟨B, e, l⟩ := go 256 (Nat.le_refl _)
    refine ⟨B, ?_, l⟩
    rw [e]
    unfold f_Bearing_mostOf_l2
    rw [whl_eq]
    show ((f_Bearing_mostOf_s2 (nI R) (nI 256) (xsA h 16 0 B)).bind _) = _
    unfold f_Bearing_mostOf_s2
    rw [if_pos (by decide)]
    show ((xup (f_Bearing_mostOf_l32 (nI R) 0 (xsA h 16 0 B))).bind _) = _
    cases f_Bearing_mostOf_l32 (nI R) 0 (xsA h 16 0 B) with
    | none => rfl
    | some x => rfl
  obtain ⟨B0, e0, l0⟩ := init
  have mid : ∀ k, k ≤ 4 → ∃ B, f_Bearing_mostOf (nI R) h = f_Bearing_mostOf_l32 (nI R) (nI k) (xsA h 16 0 B) ∧ ∀ S, S < 256 → B S = ind (S &&& R = S ∧ brn w s k S) := by
    intro k
    induction k with
    | zero => exact fun _ => ⟨B0, e0, l0⟩
    | succ k ih =>
      intro hk
      obtain ⟨B, e, l⟩ := ih (by omega)
      obtain ⟨B', e', l'⟩ := c_most41 (h := h) (I := I) (B := B) hR hRI (show k < 4 by omega) hw (e14 k (by omega)).1 (e14 k (by omega)).2 l
      refine ⟨B', ?_, l'⟩
      rw [e]
      apply whl_st
      show f_Bearing_mostOf_s32 (nI R) (nI k) (xsA h 16 0 B) = _
      unfold f_Bearing_mostOf_s32
      rw [if_neg (show ¬ (4 : Int32) ≤ nI k from nI_ge (b := 4) (by omega) (by decide)), e']
  obtain ⟨B, e, l⟩ := mid 4 (Nat.le_refl _)
  have wl : ∀ S, S < 256 → S &&& R = S → (xsA h 16 0 B).2.2.2.1 15 0 S = nI (wt w S) ∧ wt w S ≤ 160 := fun S hS hs => by
    rw [rdA_n (by decide)]
    exact hw S hS (sub_tr hs hRI)
  have mx := whl_cntE (step := fun x : Int32 × Int32 => f_Bearing_mostOf_s95 x.1 x.2 (xsA h 16 0 B)) 256 (fun k x => x.2 = nI k ∧ ∃ v, x.1 = nI v ∧ v ≤ 160 ∧ (∀ S, S < k → S &&& R = S → brn w s 4 S → wt w S ≤ v) ∧ (v = 0 ∨ ∃ S, S < 256 ∧ S &&& R = S ∧ brn w s 4 S ∧ wt w S = v)) (fun y => ∃ v, y = (nI v, xsA h 16 0 B) ∧ v ≤ 160 ∧ (∀ S, S < 256 → S &&& R = S → brn w s 4 S → wt w S ≤ v) ∧ (v = 0 ∨ ∃ S, S < 256 ∧ S &&& R = S ∧ brn w s 4 S ∧ wt w S = v)) ?_ ?_ (0, 0) ⟨nI_0.symm, 0, nI_0.symm, by decide, fun S hS => absurd hS (by omega), Or.inl rfl⟩
  · obtain ⟨y, ey, v, rfl, v160, up, at'⟩ := mx
    refine ⟨v, B, ?_, ⟨?_, fun a ha => ?_⟩, v160⟩
    · rw [e]
      unfold f_Bearing_mostOf_l32
      rw [whl_eq]
      show ((f_Bearing_mostOf_s32 (nI R) (nI 4) (xsA h 16 0 B)).bind _) = _
      unfold f_Bearing_mostOf_s32
      rw [if_pos (by decide)]
      show ((xup (f_Bearing_mostOf_l95 0 0 (xsA h 16 0 B))).bind _) = _
      have ey : f_Bearing_mostOf_l95 0 0 (xsA h 16 0 B) = some (nI v, xsA h 16 0 B) := ey
      rw [ey]
      rfl
    · rcases at' with z | ⟨S, h1, h2, h3, h4⟩
      · refine ⟨fun _ => 0, ⟨fun o y => absurd rfl y, fun o => Nat.zero_le _, fun c _ => ?_⟩, ?_⟩
        · rw [ld_z]
          exact Nat.zero_le _
        · rw [z]
          exact nsum_0 (fun o _ => decide_eq_false (fun y => y rfl))
      · obtain ⟨a, a1, a2⟩ := S_asg h2 h3
        exact ⟨a, a1, by omega⟩
    · obtain ⟨S, h1, h2, h3, h4⟩ := asg_S hR ha
      rw [← h4]
      exact up S h1 h2 h3
  · rintro k hk ⟨q0, q1⟩ ⟨e1, v, ev, v160, up, at'⟩
    have e1 : q1 = nI k := e1
    have ev : q0 = nI v := ev
    subst e1
    subst ev
    left
    have xk : xib (nI k) 256 := xibN hk (by decide)
    have s0 : f_Bearing_mostOf_s95 (nI v) (nI k) (xsA h 16 0 B) = (if (256 : Int32) ≤ nI k then some (Sum.inr (nI v, xsA h 16 0 B)) else if xib (nI k) 256 then (if (xsA h 16 0 B).2.2.2.1 16 0 (nI k).toNatClampNeg = 0 then some (Sum.inl (nI v, nI k + 1)) else if xib (nI k) 256 then (f_Math_max (nI v) ((xsA h 16 0 B).2.2.2.1 15 0 (nI k).toNatClampNeg) (xsA h 16 0 B)).bind (fun r8 => some (Sum.inl (r8, nI k + 1))) else none) else none) := rfl
    have r16 : (xsA h 16 0 B).2.2.2.1 16 0 (nI k).toNatClampNeg = ind (k &&& R = k ∧ brn w s 4 k) := by rw [rdA_s, nI_clamp (by omega)]; exact l k hk
    rw [if_neg (show ¬ (256 : Int32) ≤ nI k from nI_ge (b := 256) hk (by decide)), if_pos xk, r16, if_pos xk, nI_1] at s0
    by_cases q : k &&& R = k ∧ brn w s 4 k
    · obtain ⟨w1, w2⟩ := wl k hk q.1
      have r15 : (xsA h 16 0 B).2.2.2.1 15 0 (nI k).toNatClampNeg = nI (wt w k) := by rw [nI_clamp (by omega)]; exact w1
      rw [ind_t q, if_neg (by decide), r15, c_max (by omega) (by omega), Option.bind_some] at s0
      refine ⟨_, s0, rfl, max v (wt w k), rfl, by omega, fun S hS h2 h3 => ?_, ?_⟩
      · by_cases z : S = k
        · subst z; exact Nat.le_max_right _ _
        · exact Nat.le_trans (up S (by omega) h2 h3) (Nat.le_max_left _ _)
      · rcases Nat.le_total v (wt w k) with z | z
        · rw [Nat.max_eq_right z]
          exact Or.inr ⟨k, hk, q.1, q.2, rfl⟩
        · rw [Nat.max_eq_left z]
          exact at'
    · rw [ind_f q, if_pos rfl] at s0
      refine ⟨_, s0, rfl, v, rfl, v160, fun S hS h2 h3 => ?_, at'⟩
      by_cases z : S = k
      · subst z; exact absurd ⟨h2, h3⟩ q
      · exact up S (by omega) h2 h3
  · rintro ⟨q0, q1⟩ ⟨e1, v, ev, r⟩
    have e1 : q1 = nI 256 := e1
    have ev : q0 = nI v := ev
    subst e1
    subst ev
    refine ⟨_, ?_, v, rfl, r⟩
    show f_Bearing_mostOf_s95 (nI v) (nI 256) (xsA h 16 0 B) = _
    unfold f_Bearing_mostOf_s95
    rw [if_pos (by decide)]
