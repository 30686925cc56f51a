/-! PURE: rule: terms and sums, both sides -/
def exL (l : List (Nat × Nat)) : Prop := ∀ (w : Nat → Int64) (N : Nat) (x : Int64) (st : List Int64), st.length + 1 + np l ≤ N → ∃ y, evs w N l (x :: st) = some (y :: st)
def ol (a b a' b' : xH) (t : Nat) (B : Nat → Nat) (R L C k p : Nat) (r : Int32) : Prop := (r = 1 ∧ a'.1 7 9 0 = 0 ∧ b'.1 12 9 0 = 0 ∧ ∃ l k' p', ex a b a' b' R L C k l k' ∧ l.length + p ≤ p' ∧ sy a' b' t B p' ∧ exL l) ∨ (r = 0 ∧ fk a' b' t B)
def opG (o : Nat) : Prop := 2 ≤ o ∧ o ≤ 14 ∧ o ≠ 11
theorem op_tk {o : Nat} (h : opG o) : tkG (o, 0) := ⟨h.2.1, show 0 < 100000 by decide, fun z => absurd (show o = 1 from z) (by have := h.1; omega)⟩
theorem op_np {o : Nat} (h : opG o) : np [(o, 0)] = 0 := by
  unfold np
  rw [List.filter_cons_of_neg (by have := h.1; simp; omega)]
  rfl
theorem op_ev {o : Nat} (h : opG o) (w : Nat → Int64) (N : Nat) (x y : Int64) (st : List Int64) : evs w N [(o, 0)] (y :: x :: st) = some (opI o x y :: st) := by
  obtain ⟨h1, h2, h3⟩ := h
  show (evT w N (o, 0) (y :: x :: st)).bind (evs w N []) = _
  unfold evT
  rw [if_neg (show ¬ o = 0 by omega), if_neg (show ¬ o = 1 by omega), if_neg (show ¬ o = 11 by omega)]
  rfl
theorem exL_n : exL [] := fun w N x st _ => ⟨x, rfl⟩
theorem exL_c {l m : List (Nat × Nat)} {o : Nat} (h : opG o) (x : exG l) (y : exL m) : exL ((l ++ [(o, 0)]) ++ m) := fun w N z st hl => by
  rw [np_a, np_a, op_np h] at hl
  obtain ⟨u, eu⟩ := x w N (z :: st) (by show st.length + 1 + np l ≤ N; omega)
  rw [evs_app, evs_app, eu, Option.bind_some, op_ev h, Option.bind_some]
  exact y w N _ st (by omega)
theorem evT_np {w : Nat → Int64} {N : Nat} {τ : Nat × Nat} {st st' : List Int64} (e : evT w N τ st = some st') : st'.length ≤ st.length + np [τ] := by
  unfold evT at e
  by_cases a : τ.1 = 0
  · rw [if_pos a] at e
    split at e
    · cases e
      rw [(exG_1 (τ := τ) (by omega)).2]
      exact Nat.le_refl _
    · cases e
  by_cases b : τ.1 = 1
  · rw [if_neg a, if_pos b] at e
    split at e
    · cases e
      rw [(exG_1 (τ := τ) (by omega)).2]
      exact Nat.le_refl _
    · cases e
  rw [if_neg a, if_neg b] at e
  split at e
  · cases st with
    | nil => cases e
    | cons x r => cases e; exact Nat.le_add_right _ _
  · cases st with
    | nil => cases e
    | cons y r =>
      cases r with
      | nil => cases e
      | cons x r =>
        cases e
        show r.length + 1 ≤ r.length + 1 + 1 + _
        omega
theorem evs_np {w : Nat → Int64} {N : Nat} : ∀ (l : List (Nat × Nat)) {st st' : List Int64}, evs w N l st = some st' → st'.length ≤ st.length + np l
  | [], st, st', e => by
    cases e
    exact Nat.le_add_right _ _
  | τ :: l, st, st', e => by
    have e : (evT w N τ st).bind (evs w N l) = some st' := e
    cases h : evT w N τ st with
    | none => rw [h] at e; cases e
    | some s =>
      rw [h] at e
      have h1 := evT_np h
      have h2 := evs_np l (show evs w N l s = some st' from e)
      have h3 : np (τ :: l) = np [τ] + np l := np_a (l := [τ]) (m := l)
      omega
theorem exG_c {l m : List (Nat × Nat)} (x : exG l) (y : exL m) : exG (l ++ m) := fun w N st hl => by
  rw [np_a] at hl
  obtain ⟨u, eu⟩ := x w N st (by omega)
  rw [evs_app, eu, Option.bind_some]
  by_cases z : st.length + 1 + np m ≤ N
  · exact y w N u st z
  · exfalso
    have n0 : np l = 0 := by omega
    -- an expression that pushes nothing leaves no more than it found
    have := evs_np (w := w) (N := N) l eu
    rw [n0] at this
    have h2 : (u :: st).length ≤ st.length + 0 := this
    have h3 : (u :: st).length = st.length + 1 := rfl
    omega
/-- what the two steps of a loop do -/
def lpS (t : Nat) (B : Nat → Nat) (R : Nat) (sg : Nat → Option Nat) (stepC : Int32 × xH → Option ((Int32 × xH) ⊕ xH)) (stepM : xH → Option (xH ⊕ (Int32 × xH))) (subC : xH → Option xH) (subM : xH → Option (Int32 × xH)) : Prop :=
  (∀ s o, sg s = some o → opG o ∧ ¬ isLB s = true ∧ ¬ isDB s = true ∧ ¬ s = 60 ∧ ¬ s = 62) ∧
  (∀ v a, ¬ a.1 7 9 0 = 0 → stepC (v, a) = some (Sum.inr a)) ∧
  (∀ v a p, tR a t B p → (p < t → sg (B p) = none) → stepC (v, a) = some (Sum.inr a)) ∧
  (∀ v a p o, tR a t B p → a.1 7 9 0 = 0 → v < 400 → p < t → sg (B p) = some o → stepC (nI v, a) = (f_Tape_goOn a).bind (fun a1 => (subC a1).bind (fun a2 => (a2.2.2.1 3 1 0).bind (fun i => (f_Rule_add i (nI (cN (o, 0))) a2).bind (fun a3 => some (Sum.inl (nI v + 1, a3))))))) ∧
  (∀ b q p, mat b t B q → rn isSB B t q = p → (p < t → sg (B p) = none) → stepM b = some (Sum.inr (1, xsI b 12 8 0 (nI p)))) ∧
  (∀ b q p o, mat b t B q → rn isSB B t q = p → p < t → sg (B p) = some o → stepM b = (subM (xsI b 12 8 0 (nI (p + 1)))).bind (fun q14 => if q14.1 = 0 then some (Sum.inr (0, q14.2)) else (f_M_puts (nI o) (nI 0) q14.2).bind (fun h18 => some (Sum.inl h18)))) ∧
  (∀ a b p L C k, sy a b t B p → a.1 7 9 0 = 0 → b.1 12 9 0 = 0 → rz a b R L C k → L ≤ p → ∃ a' r b', subC a = some a' ∧ subM b = some (r, b') ∧ sfC R a a' ∧ sfM R b b' ∧ os a b a' b' t B R L C k p r)
theorem rz_of {a b a' b' : xH} {R L C k : Nat} (h : rz a b R L C k) (e1 : a'.2.2.1 = a.2.2.1) (e2 : ∀ z, a'.1 2 z R = a.1 2 z R) (e3 : a'.1 3 3 0 = a.1 3 3 0) (e4 : b'.1 12 11 0 = b.1 12 11 0) (e5 : b'.1 12 12 0 = b.1 12 12 0) (e6 : b'.2 = b.2) : rz a' b' R L C k := by
  obtain ⟨h1, h2, h3, h4, h5, h6, h7, h8, h9⟩ := h
  exact ⟨by rw [e1]; exact h1, h2, (e2 2).trans h3, e4.trans h4, by rw [e6]; exact h5, e3.trans h6, e5.trans h7, h8, h9⟩
theorem lk_loop0 {t R : Nat} {B : Nat → Nat} {sg : Nat → Option Nat} {stepC : Int32 × xH → Option ((Int32 × xH) ⊕ xH)} {stepM : xH → Option (xH ⊕ (Int32 × xH))} {subC : xH → Option xH} {subM : xH → Option (Int32 × xH)} (S : lpS t B R sg stepC stepM subC subM) (v : Nat) (a b : xH) (p L C k : Nat) (E : p < t → sg (B p) = none) (hs : sy a b t B p) (fa : a.1 7 9 0 = 0) (fb : b.1 12 9 0 = 0) (hz : rz a b R L C k) : ∃ a' r b', whl stepC (nI v, a) = some a' ∧ whl stepM b = some (r, b') ∧ sfC R a a' ∧ sfM R b b' ∧ ol a b a' b' t B R L C k p r := by
  obtain ⟨ht, q, hm, hq⟩ := id hs
  obtain ⟨z1, z2, z3, z4, z5, z6, z7, z8, z9⟩ := hz
  have hp : rn isSB B t p = p := by rw [← hq]; exact rn_id
  refine ⟨a, 1, xsI b 12 8 0 (nI p), whl_en (S.2.2.1 _ a p ht E), whl_en (S.2.2.2.2.1 b q p hm hq E), sfC_r R a, sfM_I (by omega), Or.inl ⟨rfl, fa, by rw [rdI (by decide)]; exact fb, [], k, p, ⟨⟨z3, fun _ _ => rfl, fun i hi => absurd hi (Nat.not_lt_zero i), Or.inr ⟨rfl, fun u hu => by cases hu⟩⟩, ⟨z5, fun _ _ => rfl, fun i hi => absurd hi (Nat.not_lt_zero i)⟩, z6, by rw [rdI (by decide)]; exact z7, z8, Nat.le_refl _⟩, by show 0 + p ≤ p; omega, ⟨ht, p, mat_s hm (tR_le ht), hp⟩, exL_n⟩⟩
theorem lk_loop {t R : Nat} {B : Nat → Nat} {sg : Nat → Option Nat} {stepC : Int32 × xH → Option ((Int32 × xH) ⊕ xH)} {stepM : xH → Option (xH ⊕ (Int32 × xH))} {subC : xH → Option xH} {subM : xH → Option (Int32 × xH)} (S : lpS t B R sg stepC stepM subC subM) : ∀ n v a b p L C k, t - p ≤ n → v ≤ p → sy a b t B p → a.1 7 9 0 = 0 → b.1 12 9 0 = 0 → rz a b R L C k → L ≤ p → ∃ a' r b', whl stepC (nI v, a) = some a' ∧ whl stepM b = some (r, b') ∧ sfC R a a' ∧ sfM R b b' ∧ ol a b a' b' t B R L C k p r := by
  intro n
  induction n with
  | zero =>
    intro v a b p L C k hn hv hs fa fb hz hL
    exact lk_loop0 S v a b p L C k (fun z => absurd z (by omega)) hs fa fb hz
  | succ n ih =>
    intro v a b p L C k hn hv hs fa fb hz hL
    by_cases E : p < t → sg (B p) = none
    · exact lk_loop0 S v a b p L C k E hs fa fb hz
    have pt : p < t := Classical.byContradiction (fun z => E (fun y => absurd y z))
    obtain ⟨o, ho⟩ : ∃ o, sg (B p) = some o := by
      cases h : sg (B p) with
      | none => exact absurd (fun _ => h) E
      | some o => exact ⟨o, rfl⟩
    obtain ⟨og, nl, nd, n60, n62⟩ := S.1 _ _ ho
    obtain ⟨ht, q, hm, hq⟩ := id hs
    have t4 := hm.1.2.1
    have nw : ¬ weqB B t p = true := fun z => by
      unfold weqB at z
      rw [Bool.and_eq_true, Bool.or_eq_true, decide_eq_true_iff, decide_eq_true_iff] at z
      rcases z.1 with y | y
      · exact n60 y
      · exact n62 y
    obtain ⟨a1, ea1, t1, f1, w1⟩ := c_goOnT ht
    have e1 := c_goOn2 ea1
    obtain ⟨b1, eb1⟩ : ∃ b1, b1 = xsI b 12 8 0 (nI (p + 1)) := ⟨_, rfl⟩
    have m1 : mat b1 t B (p + 1) := by rw [eb1]; exact mat_s hm (by omega)
    have s1 : sy a1 b1 t B (nxB B t p) := ⟨t1, p + 1, m1, nx_sign pt nl nd nw⟩
    have ng := nx_gt (B := B) pt
    have z1 : rz a1 b1 R L C k := rz_of hz (by rw [e1]) (fun z => f1.1 2 z R (by omega)) (f1.1 3 3 0 (by decide)) (by rw [eb1, rdI (by decide)]) (by rw [eb1, rdI (by decide)]) (by rw [eb1]; rfl)
    obtain ⟨a2, r2, b2, ea2, eb2, f2, g2, o2⟩ := S.2.2.2.2.2.2 a1 b1 (nxB B t p) L C k s1 (w1.trans fa) (by rw [eb1, rdI (by decide)]; exact fb) z1 (by omega)
    have fA : sfC R a a2 := sfC_t (sfC_p f1 (by rw [e1])) f2
    have gB : sfM R b b2 := sfM_t (by rw [eb1]; exact sfM_I (by omega)) g2
    have c3 := S.2.2.2.1 v a p o ht fa (by omega) pt ho
    have m3 := S.2.2.2.2.2.1 b q p o hm hq pt ho
    rw [ea1, Option.bind_some, ea2, Option.bind_some, fA.2.2, hz.1, Option.bind_some] at c3
    rw [← eb1, eb2, Option.bind_some] at m3
    rcases o2 with ⟨rfl, x1, x2, l, k', p', x3, x4, x5, x6, x7⟩ | ⟨rfl, x1⟩
    · rw [if_neg i1] at m3
      obtain ⟨tt, q', mm, hq'⟩ := id x6
      have pt' := tR_le tt
      have z2 := rz_ex z1 x3 f2.2.2 (g2.1 12 11 0 (by omega))
      obtain ⟨y1, y2, y3, y4, y5, y6, y7, y8, y9⟩ := id z2
      obtain ⟨a3, ea3, ad, ap⟩ := c_add (a := a2) (R := R) (L := L + l.length) (t := (o, 0)) y3 (by omega) (op_tk og)
      obtain ⟨b3, eb3, pf, pm⟩ := m_put (b := b2) (R := R) (C := C + l.length) (t := (o, 0)) y2 y4 y5 (by omega) (op_tk og)
      have eb3 : f_M_puts (nI o) (nI 0) b2 = some b3 := eb3
      rw [ea3, Option.bind_some, nI_1] at c3
      rw [eb3, Option.bind_some] at m3
      have s3 : sy a3 b3 t B p' := ⟨tR_ad ad tt, q', ⟨mtx_of (by rw [pf.1]) (pf.2.1 47 0 (by decide)) mm.1, by rw [pf.1]; exact mm.2.1, mm.2.2⟩, hq'⟩
      have ex2 : ex a b a2 b2 R L C k l k' := ex_of (c := a1) (d := b1) (fun z => f1.1 2 z R (by omega)) (by rw [e1]) (by rw [eb1]; rfl) x3
      have ex3 : ex a2 b2 a3 b3 R (L + l.length) (C + l.length) k' [(o, 0)] k' := ⟨ap, pm, by rw [ad.1 3 3 0 (by omega)]; exact x3.2.2.1, by rw [pf.1]; exact x3.2.2.2.1, x3.2.2.2.2.1, by rw [op_np og]; omega⟩
      have ex4 := ex_t ex2 ex3
      have z3 := rz_ex hz ex4 (by rw [ad.2.2]; exact fA.2.2) (by rw [pf.1]; exact gB.1 12 11 0 (by omega))
      have ll : (l ++ [(o, 0)]).length = l.length + 1 := by rw [List.length_append]; rfl
      obtain ⟨a4, r4, b4, ea4, eb4, f4, g4, o4⟩ := ih (v + 1) a3 b3 p' _ _ k' (by omega) (by omega) s3 (by rw [ad.1 7 9 0 (by omega)]; exact x1) (by rw [pf.1]; exact x2) z3 (by omega)
      refine ⟨a4, r4, b4, by rw [whl_st c3]; exact ea4, by rw [whl_st m3]; exact eb4, sfC_t fA (sfC_t (sfC_a ad) f4), sfM_t gB (sfM_t (sfM_a pf) g4), ?_⟩
      rcases o4 with ⟨rfl, u1, u2, l', k2, p2, u3, u4, u5, u6⟩ | ⟨rfl, u1⟩
      · exact Or.inl ⟨rfl, u1, u2, (l ++ [(o, 0)]) ++ l', k2, p2, ex_t ex4 u3, by rw [List.length_append, ll]; omega, u5, exL_c og x7 u6⟩
      · exact Or.inr ⟨rfl, u1⟩
    · rw [if_pos rfl] at m3
      obtain ⟨a3, ea3, f3, s3, w3⟩ := v_add (R := R) (t := t) (B := B) (a := a2) (nI (cN (o, 0))) ⟨by rw [fA.2.2]; exact hz.1, x1.1, x1.2.2⟩
      rw [ea3, Option.bind_some] at c3
      refine ⟨a3, 0, b2, by rw [whl_st c3]; exact whl_en (S.2.1 _ a3 s3.2.2), whl_en m3, sfC_t fA f3, gB, Or.inr ⟨rfl, s3.2.1, w3.trans x1.2.1, s3.2.2⟩⟩
