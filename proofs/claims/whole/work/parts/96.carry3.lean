/-! PURE: who carries what; both answer alike -/
def sW (s : Nat → Nat) (c x : Nat) : Nat → Nat := fun c' => if c' = c then s c - x else s c'
def upA (a : Nat → Nat) (i y : Nat) : Nat → Nat := fun o => if o = i then y else a o
theorem upA_s {a : Nat → Nat} {i y : Nat} : upA a i y i = y := if_pos rfl
theorem upA_n {a : Nat → Nat} {i y o : Nat} (h : o ≠ i) : upA a i y o = a o := if_neg h
theorem ld_up1 {w a : Nat → Nat} {i c : Nat} (hi : i < 8) (h0 : a i = 0) : ldk w (upA a i (c + 1)) (c + 1) 8 = ldk w a (c + 1) 8 + w i := by
  have := nsum_set (f := w) (p := fun o => decide (a o = c + 1)) (q := fun o => decide (upA a i (c + 1) o = c + 1)) (j := i) (decide_eq_false (by omega)) (decide_eq_true upA_s) (n := 8) (fun k _ hk => by
    show decide (upA a i (c + 1) k = c + 1) = decide (a k = c + 1)
    rw [upA_n hk])
  rw [if_pos hi] at this
  exact this
theorem ld_up2 {w a : Nat → Nat} {i c c' : Nat} (h0 : a i = 0) (hc : c' ≠ c) : ldk w (upA a i (c + 1)) (c' + 1) 8 = ldk w a (c' + 1) 8 := nsum_congr (fun o _ => ⟨by
  show decide (upA a i (c + 1) o = c' + 1) = decide (a o = c' + 1)
  by_cases z : o = i
  · subst z
    rw [upA_s, h0, decide_eq_false (by omega), decide_eq_false (by omega)]
  · rw [upA_n z], fun _ => rfl⟩)
theorem vN_up {w a : Nat → Nat} {i c : Nat} (hi : i < 8) (h0 : a i = 0) : vN w (upA a i (c + 1)) 8 = vN w a 8 + w i := by
  have := nsum_set (f := w) (p := fun o => decide (a o ≠ 0)) (q := fun o => decide (upA a i (c + 1) o ≠ 0)) (j := i) (decide_eq_false (fun z => z h0)) (decide_eq_true (by rw [upA_s]; omega)) (n := 8) (fun k _ hk => by
    show decide (upA a i (c + 1) k ≠ 0) = decide (a k ≠ 0)
    rw [upA_n hk])
  rw [if_pos hi] at this
  exact this
theorem asg_w {w s : Nat → Nat} {R i : Nat} {a : Nat → Nat} (h : asg w s R a) : asg w s (R ||| 2 ^ i) a := ⟨fun o z => or_bit.mpr (Or.inl (h.1 o z)), h.2⟩
theorem asg_2 {w s : Nat → Nat} {R i c : Nat} {a : Nat → Nat} (hi : i < 8) (hR : R.testBit i = false) (hc : c < 4) (hs : w i ≤ s c) (h : asg w (sW s c (w i)) R a) : asg w s (R ||| 2 ^ i) (upA a i (c + 1)) ∧ vN w (upA a i (c + 1)) 8 = vN w a 8 + w i := by
  have h0 : a i = 0 := by
    by_cases z : a i = 0
    · exact z
    · have := h.1 i z
      rw [hR] at this
      cases this
  refine ⟨⟨fun o z => ?_, fun o => ?_, fun c' hc' => ?_⟩, vN_up hi h0⟩
  · by_cases y : o = i
    · exact or_bit.mpr (Or.inr y)
    · rw [upA_n y] at z
      exact or_bit.mpr (Or.inl (h.1 o z))
  · by_cases y : o = i
    · rw [y, upA_s]; omega
    · rw [upA_n y]; exact h.2.1 o
  · have l := h.2.2 c' hc'
    unfold sW at l
    by_cases y : c' = c
    · subst y
      rw [if_pos rfl] at l
      rw [ld_up1 hi h0]
      omega
    · rw [if_neg y] at l
      rw [ld_up2 h0 y]
      exact l
theorem asg_3 {w s : Nat → Nat} {R i : Nat} {a : Nat → Nat} (hR : R.testBit i = false) (h : asg w s (R ||| 2 ^ i) a) (h0 : a i = 0) : asg w s R a := by
  refine ⟨fun o z => ?_, h.2⟩
  rcases or_bit.mp (h.1 o z) with y | y
  · exact y
  · rw [y] at z
    exact absurd h0 z
theorem asg_4 {w s : Nat → Nat} {R i c : Nat} {a : Nat → Nat} (hi : i < 8) (hR : R.testBit i = false) (h : asg w s (R ||| 2 ^ i) a) (hc : a i = c + 1) : c < 4 ∧ w i ≤ s c ∧ ∃ a', asg w (sW s c (w i)) R a' ∧ vN w a 8 = vN w a' 8 + w i := by
  have c4 : c < 4 := by
    have := h.2.1 i
    omega
  have ea : a = upA (upA a i 0) i (c + 1) := by
    funext o
    by_cases y : o = i
    · rw [y, upA_s, hc]
    · rw [upA_n y, upA_n y]
  have l1 : ldk w a (c + 1) 8 = ldk w (upA a i 0) (c + 1) 8 + w i := by
    have := ld_up1 (w := w) (a := upA a i 0) (c := c) hi upA_s
    rw [← ea] at this
    exact this
  have l := h.2.2 c c4
  refine ⟨c4, by omega, upA a i 0, ⟨fun o z => ?_, fun o => ?_, fun c' hc' => ?_⟩, ?_⟩
  · by_cases y : o = i
    · rw [y, upA_s] at z
      exact absurd rfl z
    · rw [upA_n y] at z
      exact (or_bit.mp (h.1 o z)).resolve_right y
  · by_cases y : o = i
    · rw [y, upA_s]; omega
    · rw [upA_n y]; exact h.2.1 o
  · unfold sW
    by_cases y : c' = c
    · subst y
      rw [if_pos rfl]
      omega
    · rw [if_neg y]
      have := ld_up2 (w := w) (a := upA a i 0) (c := c) (c' := c') upA_s y
      rw [← ea] at this
      rw [← this]
      exact h.2.2 c' hc'
  · have := vN_up (w := w) (a := upA a i 0) (c := c) hi upA_s
    rw [← ea] at this
    exact this
/-- what the class's search for bearers changes -/
def baF (h g : xH) : Prop := g.1 = h.1 ∧ ∀ f i, ¬ (i = 0 ∧ (f = 14 ∨ f = 16)) → g.2.2.2.1 f i = h.2.2.2.1 f i
theorem c_first {h : xH} {I R i v : Nat} {w s : Nat → Nat} (hI : R ||| 2 ^ i < 256) (hRI : (R ||| 2 ^ i) &&& I = R ||| 2 ^ i) (hi : i < 8) (hR : R.testBit i = false) (hw : wTb h I w) (e14 : ∀ c, c < 4 → h.2.2.2.1 14 0 c = nI (s c) ∧ s c ≤ 60) (wi : w i ≤ 20) (hM : isM w s (R ||| 2 ^ i) v) (v160 : v ≤ 160) : ∃ x s' v' h2, f_Bearing_firstBearer (nI (w i)) (nI R) (nI v) h = some (nI x - 1, h2) ∧ baF h h2 ∧ (∀ c, c < 4 → h2.2.2.2.1 14 0 c = nI (s' c) ∧ s' c ≤ 60) ∧ isM w s' R v' ∧ v' ≤ 160 ∧ ((x = 0 ∧ s' = s ∧ v' = v) ∨ ∃ c, x = c + 1 ∧ c < 4 ∧ w i ≤ s c ∧ s' = sW s c (w i) ∧ v' + w i = v) ∧ ∀ y, y < x → (y = 0 → ¬ isM w s R v) ∧ ∀ c', y = c' + 1 → ¬ (w i ≤ s c' ∧ isM w (sW s c' (w i)) R (v - w i)) := by
  have R8 : R < 256 := Nat.lt_of_le_of_lt Nat.left_le_or hI
  have RI : R &&& I = R := by
    have e1 : R &&& (R ||| 2 ^ i) = R := by
      apply Nat.eq_of_testBit_eq
      intro o
      rw [Nat.testBit_and]
      cases hb : R.testBit o with
      | false => rfl
      | true =>
        rw [or_bit.mpr (Or.inl hb)]
        rfl
    exact sub_tr e1 hRI
  obtain ⟨u, B, eu, hu, u160⟩ := c_mostOf (h := h) (I := I) R8 RI hw e14
  have s0 : f_Bearing_firstBearer (nI (w i)) (nI R) (nI v) h = (f_Bearing_mostOf (nI R) h).bind (fun q3 => if q3.1 = nI v then some (-1, q3.2) else f_Bearing_firstBearer_l14 (nI (w i)) (nI R) (nI v) 0 q3.2) := rfl
  rw [eu, Option.bind_some] at s0
  by_cases q : u = v
  · subst q
    refine ⟨0, s, u, xsA h 16 0 B, ?_, ⟨rfl, fun f j z => rdA_n (by omega)⟩, fun c hc => by rw [rdA_n (by decide)]; exact e14 c hc, hu, u160, Or.inl ⟨rfl, rfl, rfl⟩, fun y hy => absurd hy (by omega)⟩
    rw [s0, if_pos rfl]
    rfl
  · have nz : ¬ isM w s R v := fun z => q (isM_u hu z)
    have s0 : f_Bearing_firstBearer (nI (w i)) (nI R) (nI v) h = f_Bearing_firstBearer_l14 (nI (w i)) (nI R) (nI v) 0 (xsA h 16 0 B) := by
      rw [s0]
      exact if_neg (fun z => q ((nI_eq (by omega) (by omega)).mp z))
    have key := whl_cntE (step := fun x : Int32 × xH => f_Bearing_firstBearer_s14 (nI (w i)) (nI R) (nI v) x.1 x.2) 4 (fun c x => x.1 = nI c ∧ baF h x.2 ∧ (∀ c, c < 4 → x.2.2.2.2.1 14 0 c = nI (s c) ∧ s c ≤ 60) ∧ ∀ c', c' < c → ¬ (w i ≤ s c' ∧ isM w (sW s c' (w i)) R (v - w i))) (fun y => ∃ c v' h2, y = (nI c, h2) ∧ baF h h2 ∧ (∀ c', c' < 4 → h2.2.2.2.1 14 0 c' = nI (sW s c (w i) c') ∧ sW s c (w i) c' ≤ 60) ∧ isM w (sW s c (w i)) R v' ∧ v' ≤ 160 ∧ c < 4 ∧ w i ≤ s c ∧ v' + w i = v ∧ ∀ c', c' < c → ¬ (w i ≤ s c' ∧ isM w (sW s c' (w i)) R (v - w i))) ?_ ?_ (0, xsA h 16 0 B) ⟨nI_0.symm, ⟨rfl, fun f j z => rdA_n (by omega)⟩, fun c hc => by rw [rdA_n (by decide)]; exact e14 c hc, fun c' hc => absurd hc (by omega)⟩
    · obtain ⟨y, ey, c, v', h2, rfl, f2, e2, m2, v2, c4, ws, ev, fl⟩ := key
      refine ⟨c + 1, sW s c (w i), v', h2, ?_, f2, e2, m2, v2, Or.inr ⟨c, rfl, c4, ws, rfl, ev⟩, fun y hy => ⟨fun _ => nz, fun c' hc' => fl c' (by omega)⟩⟩
      rw [s0, nI_pred]
      exact ey
    · rintro c hc ⟨q1, g⟩ ⟨e1, f, eg, l⟩
      have e1 : q1 = nI c := e1
      subst e1
      have f : baF h g := f
      have eg : ∀ c, c < 4 → g.2.2.2.1 14 0 c = nI (s c) ∧ s c ≤ 60 := eg
      have xc : xib (nI c) 4 := xibN hc (by decide)
      have cc : (nI c).toNatClampNeg = c := nI_clamp (by omega)
      have hwg : wTb g I w := fun S hS hs => by rw [f.2 15 0 (by omega)]; exact hw S hS hs
      have ec : g.2.2.2.1 14 0 (nI c).toNatClampNeg = nI (s c) := by rw [cc]; exact (eg c hc).1
      have s60 := (eg c hc).2
      by_cases z : s c < w i
      · left
        refine ⟨(nI (c + 1), g), ?_, rfl, f, eg, fun c' hc' => ?_⟩
        · show f_Bearing_firstBearer_s14 (nI (w i)) (nI R) (nI v) (nI c) g = _
          unfold f_Bearing_firstBearer_s14 f_Bearing_firstBearer_b67
          rw [if_neg (show ¬ (4 : Int32) ≤ nI c from nI_ge (b := 4) hc (by decide)), if_pos xc, ec, if_pos (nI_lt z (by omega)), xlet_e, nI_1]
        · by_cases y : c' = c
          · subst y
            exact fun u => by have := u.1; omega
          · exact l c' (by omega)
      · obtain ⟨g1, eg1⟩ : ∃ g1, g1 = xsA g 14 0 (upd (g.2.2.2.1 14 0) c (nI (s c - w i))) := ⟨_, rfl⟩
        have e14' : ∀ c', c' < 4 → g1.2.2.2.1 14 0 c' = nI (sW s c (w i) c') ∧ sW s c (w i) c' ≤ 60 := fun c' hc' => by
          rw [eg1, rdA_s]
          unfold sW
          by_cases y : c' = c
          · rw [y, pk_us, if_pos rfl]
            exact ⟨rfl, by omega⟩
          · rw [pk_un y, if_neg y]
            exact eg c' hc'
        have hwg1 : wTb g1 I w := fun S hS hs => by rw [eg1, rdA_n (by decide)]; exact hwg S hS hs
        obtain ⟨u', B', eu', hu', u160'⟩ := c_mostOf (h := g1) (I := I) R8 RI hwg1 e14'
        have ub : ∀ a, asg w (sW s c (w i)) R a → vN w a 8 + w i ≤ v := fun a ha => by
          obtain ⟨x1, x2⟩ := asg_2 hi hR hc (by omega) ha
          rw [← x2]
          exact hM.2 _ x1
        have uv : u' + w i ≤ v := by
          obtain ⟨⟨a, a1, a2⟩, -⟩ := hu'
          rw [← a2]
          exact ub a a1
        have dv : nI v - nI (w i) = nI (v - w i) := pk_sub (by omega)
        have eu1 : xsA g 14 0 (upd (g.2.2.2.1 14 0) (nI c).toNatClampNeg (g.2.2.2.1 14 0 (nI c).toNatClampNeg - nI (w i))) = g1 := by
          rw [ec, cc, pk_sub (by omega), eg1]
        have s1 : f_Bearing_firstBearer_s14 (nI (w i)) (nI R) (nI v) (nI c) g = (if nI u' = nI (v - w i) then some (Sum.inr (nI c, xsA g1 16 0 B')) else some (Sum.inl (nI (c + 1), xsA (xsA g1 16 0 B') 14 0 (upd ((xsA g1 16 0 B').2.2.2.1 14 0) (nI c).toNatClampNeg ((xsA g1 16 0 B').2.2.2.1 14 0 (nI c).toNatClampNeg + nI (w i)))))) := by
          unfold f_Bearing_firstBearer_s14 f_Bearing_firstBearer_b67
          rw [if_neg (show ¬ (4 : Int32) ≤ nI c from nI_ge (b := 4) hc (by decide)), if_pos xc, if_neg (by rw [ec]; exact nI_nlt (by omega) (by omega)), if_pos xc, if_pos xc, eu1, xlet_e, eu', Option.bind_some, dv, if_pos xc, if_pos xc, xlet_e, xlet_e, nI_1]
        have fr : ∀ C D, baF h (xsA (xsA g1 16 0 C) 14 0 D) := fun C D => ⟨by show g1.1 = _; rw [eg1]; exact f.1, fun f' j y => by rw [rdA_n (by omega), rdA_n (by omega), eg1, rdA_n (by omega)]; exact f.2 f' j y⟩
        by_cases y : u' = v - w i
        · right
          refine ⟨_, by show f_Bearing_firstBearer_s14 (nI (w i)) (nI R) (nI v) (nI c) g = _; rw [s1, if_pos (by rw [y])], c, u', xsA g1 16 0 B', rfl, ⟨by show g1.1 = _; rw [eg1]; exact f.1, fun f' j y => by rw [rdA_n (by omega), eg1, rdA_n (by omega)]; exact f.2 f' j y⟩, fun c' hc' => by rw [rdA_n (by decide)]; exact e14' c' hc', hu', u160', hc, by omega, by omega, l⟩
        · left
          refine ⟨_, by show f_Bearing_firstBearer_s14 (nI (w i)) (nI R) (nI v) (nI c) g = _; rw [s1, if_neg (fun o => y ((nI_eq (by omega) (by omega)).mp o))], rfl, fr _ _, fun c' hc' => ?_, fun c' hc' => ?_⟩
          · show (xsA (xsA g1 16 0 B') 14 0 _).2.2.2.1 14 0 c' = _ ∧ _
            have r14 : (xsA g1 16 0 B').2.2.2.1 14 0 = g1.2.2.2.1 14 0 := rdA_n (by decide)
            rw [rdA_s, r14, cc]
            by_cases o : c' = c
            · subst o
              rw [pk_us, (e14' c' hc').1]
              unfold sW
              rw [if_pos rfl, nI_add]
              exact ⟨congrArg nI (by omega), s60⟩
            · rw [pk_un o, eg1, rdA_s, pk_un o]
              exact eg c' hc'
          · by_cases o : c' = c
            · subst o
              exact fun k => y (isM_u hu' k.2)
            · exact l c' (by omega)
    · rintro ⟨q1, g⟩ ⟨e1, f, eg, l⟩
      exfalso
      obtain ⟨⟨a, a1, a2⟩, a3⟩ := hM
      by_cases z : a i = 0
      · exact nz ⟨⟨a, asg_3 hR a1 z, a2⟩, fun b hb => a3 b (asg_w hb)⟩
      · obtain ⟨c4, ws, a', b1, b2⟩ := asg_4 (c := a i - 1) hi hR a1 (by omega)
        refine l (a i - 1) c4 ⟨ws, ⟨a', b1, by omega⟩, fun b hb => ?_⟩
        obtain ⟨x1, x2⟩ := asg_2 hi hR c4 ws hb
        have := a3 _ x1
        omega
/-! the rest from i on -/
def rS (I i : Nat) : Nat := bs (fun o => I.testBit o && decide (i ≤ o)) 8
theorem rS_bit {I i o : Nat} (hI : I < 256) : (rS I i).testBit o = true ↔ I.testBit o = true ∧ i ≤ o := by
  unfold rS
  rw [bs_bit, Bool.and_eq_true, Bool.and_eq_true, decide_eq_true_iff, decide_eq_true_iff]
  exact ⟨fun z => z.2, fun z => ⟨bit_hi hI z.1, z⟩⟩
theorem bit_ext {A B : Nat} (h : ∀ o, A.testBit o = true ↔ B.testBit o = true) : A = B := by
  apply Nat.eq_of_testBit_eq
  intro o
  have := h o
  cases ha : A.testBit o with
  | true => rw [this.mp ha]
  | false =>
    cases hb : B.testBit o with
    | false => rfl
    | true => rw [this.mpr hb] at ha; cases ha
theorem rS_lt {I i : Nat} : rS I i < 256 := bs_lt8 _ (Nat.le_refl _)
theorem rS_sub {I i : Nat} (hI : I < 256) : rS I i &&& I = rS I i := bit_ext (fun o => by
  rw [Nat.testBit_and, Bool.and_eq_true, rS_bit hI]
  exact ⟨fun z => z.1, fun z => ⟨z, z.1⟩⟩)
theorem rS_0 {I : Nat} (hI : I < 256) : rS I 0 = I := bit_ext (fun o => by
  rw [rS_bit hI]
  exact ⟨fun z => z.1, fun z => ⟨z, Nat.zero_le _⟩⟩)
theorem rS_8 {I : Nat} (hI : I < 256) : rS I 8 = 0 := bit_ext (fun o => by
  rw [rS_bit hI, Nat.zero_testBit]
  exact ⟨fun z => by have := bit_hi hI z.1; omega, fun z => by cases z⟩)
theorem rS_n {I i : Nat} (hI : I < 256) (h : I.testBit i = false) : rS I (i + 1) = rS I i := bit_ext (fun o => by
  rw [rS_bit hI, rS_bit hI]
  refine ⟨fun z => ⟨z.1, by omega⟩, fun z => ⟨z.1, ?_⟩⟩
  by_cases y : o = i
  · subst y
    rw [h] at z
    exact absurd z.1 (by decide)
  · omega)
theorem rS_y {I i : Nat} (hI : I < 256) (h : I.testBit i = true) : rS I (i + 1) ||| 2 ^ i = rS I i := bit_ext (fun o => by
  rw [or_bit, rS_bit hI, rS_bit hI]
  constructor
  · rintro (z | z)
    · exact ⟨z.1, by omega⟩
    · subst z; exact ⟨h, Nat.le_refl _⟩
  · intro z
    by_cases y : o = i
    · exact Or.inr y
    · exact Or.inl ⟨z.1, by omega⟩)
theorem rS_f {I i : Nat} (hI : I < 256) : (rS I (i + 1)).testBit i = false := by
  cases hb : (rS I (i + 1)).testBit i with
  | false => rfl
  | true =>
    have := ((rS_bit hI).mp hb).2
    omega
theorem nsum_split {f : Nat → Nat} {p : Nat → Bool} {i : Nat} : ∀ {n : Nat}, i ≤ n → nsum f p n = nsum f p i + nsum f (fun o => p o && decide (i ≤ o)) n
  | 0, h => by
    have : i = 0 := by omega
    subst this
    rfl
  | n + 1, h => by
    by_cases z : i = n + 1
    · have e0 : nsum f (fun o => p o && decide (i ≤ o)) (n + 1) = 0 := nsum_0 (fun k hk => by
        show (p k && decide (i ≤ k)) = false
        rw [decide_eq_false (by omega), Bool.and_false])
      rw [e0, z]
      rfl
    · have ih := nsum_split (f := f) (p := p) (i := i) (n := n) (by omega)
      show nsum f p n + (if p n then f n else 0) = nsum f p i + (nsum f (fun o => p o && decide (i ≤ o)) n + (if (p n && decide (i ≤ n)) = true then f n else 0))
      rw [ih, decide_eq_true (show i ≤ n by omega), Bool.and_true]
      omega
def tlA (q : Nat → Nat) (i : Nat) : Nat → Nat := fun o => if o < i then 0 else q o
theorem tlA_ge {q : Nat → Nat} {i o : Nat} (h : i ≤ o) : tlA q i o = q o := if_neg (by omega)
theorem ld_tl {w q : Nat → Nat} {c i : Nat} (hi : i ≤ 8) : ldk w q (c + 1) 8 = ldk w q (c + 1) i + ldk w (tlA q i) (c + 1) 8 := by
  have : ldk w (tlA q i) (c + 1) 8 = nsum w (fun o => decide (q o = c + 1) && decide (i ≤ o)) 8 := nsum_congr (fun o _ => ⟨by
    show decide (tlA q i o = c + 1) = (decide (q o = c + 1) && decide (i ≤ o))
    by_cases z : i ≤ o
    · rw [tlA_ge z, decide_eq_true z, Bool.and_true]
    · rw [decide_eq_false z, Bool.and_false]
      exact decide_eq_false (by unfold tlA; rw [if_pos (by omega)]; omega), fun _ => rfl⟩)
  rw [this]
  exact nsum_split hi
theorem vN_tl {w q : Nat → Nat} {i : Nat} (hi : i ≤ 8) : vN w q 8 = vN w q i + vN w (tlA q i) 8 := by
  have : vN w (tlA q i) 8 = nsum w (fun o => decide (q o ≠ 0) && decide (i ≤ o)) 8 := nsum_congr (fun o _ => ⟨by
    show decide (tlA q i o ≠ 0) = (decide (q o ≠ 0) && decide (i ≤ o))
    by_cases z : i ≤ o
    · rw [tlA_ge z, decide_eq_true z, Bool.and_true]
    · rw [decide_eq_false z, Bool.and_false]
      exact decide_eq_false (by unfold tlA; rw [if_pos (by omega)]; exact fun y => y rfl), fun _ => rfl⟩)
  rw [this]
  exact nsum_split hi
/-- what stands when those below i have been given out -/
def paI (I : Nat) (w ST : Nat → Nat) (M i : Nat) (b s : Nat → Nat) (v : Nat) : Prop := (∀ o, i ≤ o → b o = 0) ∧ (∀ o, b o ≠ 0 → I.testBit o = true) ∧ (∀ o, b o ≤ 4) ∧ (∀ c, c < 4 → s c + ldk w b (c + 1) i = ST c) ∧ isM w s (rS I i) v ∧ M = vN w b i + v ∧ ∀ j, j < i → ∀ q, asg w ST I q → (∀ k, k < j → q k = b k) → q j < b j → vN w q 8 ≠ M
theorem paI_n {I M i v : Nat} {w ST b s : Nat → Nat} (hI : I < 256) (hi : I.testBit i = false) (h : paI I w ST M i b s v) : paI I w ST M (i + 1) b s v := by
  obtain ⟨h1, h2, h3, h4, h5, h6, h7⟩ := h
  have bi : b i = 0 := h1 i (Nat.le_refl _)
  refine ⟨fun o ho => h1 o (by omega), h2, h3, fun c hc => ?_, by rw [rS_n hI hi]; exact h5, ?_, fun j hj q hq ag lt => ?_⟩
  · rw [ldk_s, if_neg (by omega)]
    exact h4 c hc
  · rw [vN_s, if_pos bi]
    exact h6
  · by_cases z : j = i
    · subst z
      rw [bi] at lt
      omega
    · exact h7 j (by omega) q hq ag lt
theorem paI_y {I M i v x v' : Nat} {w ST b s s' : Nat → Nat} (hI : I < 256) (i8 : i < 8) (hi : I.testBit i = true) (h : paI I w ST M i b s v) (hm : isM w s' (rS I (i + 1)) v') (hx : (x = 0 ∧ s' = s ∧ v' = v) ∨ ∃ c, x = c + 1 ∧ c < 4 ∧ w i ≤ s c ∧ s' = sW s c (w i) ∧ v' + w i = v) (gr : ∀ y, y < x → (y = 0 → ¬ isM w s (rS I (i + 1)) v) ∧ ∀ c', y = c' + 1 → ¬ (w i ≤ s c' ∧ isM w (sW s c' (w i)) (rS I (i + 1)) (v - w i))) : paI I w ST M (i + 1) (upA b i x) s' v' := by
  obtain ⟨h1, h2, h3, h4, h5, h6, h7⟩ := h
  have ag : ∀ k, k < i → upA b i x k = b k := fun k hk => upA_n (by omega)
  have lk : ∀ c, ldk w (upA b i x) c i = ldk w b c i := fun c => ldk_c ag
  have vk : vN w (upA b i x) i = vN w b i := vN_c ag
  have h5' : isM w s (rS I (i + 1) ||| 2 ^ i) v := by rw [rS_y hI hi]; exact h5
  refine ⟨fun o ho => by rw [upA_n (by omega)]; exact h1 o (by omega), fun o z => ?_, fun o => ?_, fun c hc => ?_, hm, ?_, fun j hj q hq agq lt => ?_⟩
  · by_cases y : o = i
    · rw [y]; exact hi
    · rw [upA_n y] at z; exact h2 o z
  · by_cases y : o = i
    · rw [y, upA_s]
      rcases hx with ⟨a, -⟩ | ⟨c, a, b', -⟩ <;> omega
    · rw [upA_n y]; exact h3 o
  · rw [ldk_s, lk, upA_s]
    have := h4 c hc
    rcases hx with ⟨a, b', -⟩ | ⟨c0, a, c4, ws, b', -⟩
    · rw [b', if_neg (by omega)]
      exact this
    · rw [b']
      unfold sW
      by_cases y : c = c0
      · subst y
        rw [if_pos rfl, if_pos a]
        omega
      · rw [if_neg y, if_neg (by omega)]
        exact this
  · rw [vN_s, vk, upA_s]
    rcases hx with ⟨a, -, b'⟩ | ⟨c0, a, c4, ws, -, b'⟩
    · rw [if_pos a]; omega
    · rw [if_neg (by omega)]; omega
  · by_cases z : j = i
    · subst z
      rw [upA_s] at lt
      have agb : ∀ k, k < j → q k = b k := fun k hk => by rw [agq k hk, ag k hk]
      intro eM
      have tv : vN w (tlA q j) 8 = v := by
        have := vN_tl (w := w) (q := q) (i := j) (by omega)
        rw [vN_c agb] at this
        omega
      have ta : asg w s (rS I (j + 1) ||| 2 ^ j) (tlA q j) := by
        rw [rS_y hI hi]
        refine ⟨fun o y => ?_, fun o => ?_, fun c hc => ?_⟩
        · rw [rS_bit hI]
          unfold tlA at y
          by_cases u : o < j
          · rw [if_pos u] at y; exact absurd rfl y
          · rw [if_neg u] at y
            exact ⟨hq.1 o y, by omega⟩
        · unfold tlA
          by_cases u : o < j
          · rw [if_pos u]; omega
          · rw [if_neg u]; exact hq.2.1 o
        · have l1 := ld_tl (w := w) (q := q) (c := c) (i := j) (by omega)
          rw [ldk_c agb] at l1
          have l2 := hq.2.2 c hc
          have l3 := h4 c hc
          omega
      have ti : tlA q j j = q j := tlA_ge (Nat.le_refl _)
      obtain ⟨g1, g2⟩ := gr (q j) lt
      by_cases y : q j = 0
      · exact g1 y ⟨⟨tlA q j, asg_3 (rS_f hI) ta (by rw [ti]; exact y), tv⟩, fun a ha => h5'.2 a (asg_w ha)⟩
      · obtain ⟨c4, ws, a', b1, b2⟩ := asg_4 (c := q j - 1) i8 (rS_f hI) ta (by rw [ti]; omega)
        refine g2 (q j - 1) (by omega) ⟨ws, ⟨a', b1, by omega⟩, fun a ha => ?_⟩
        obtain ⟨x1, x2⟩ := asg_2 i8 (rS_f hI) c4 ws ha
        have := h5'.2 _ x1
        omega
    · refine h7 j (by omega) q hq (fun k hk => by rw [agq k hk, ag k (by omega)]) (by rw [ag j (by omega)] at lt; exact lt)
