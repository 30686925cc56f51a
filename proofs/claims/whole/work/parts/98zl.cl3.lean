/-! PURE: rule: a clause, both sides -/
noncomputable def cEnd (h : xH) : Option xH := (h.2.2.1 3 1 0).bind (fun i => (f_Rule_add i 25 h).bind (fun h34 => some h34))
noncomputable def cRest (h : xH) : Option xH := (f_Tape_isWell h).bind (fun r15 => if r15 = 0 then f_RuleReader_readClause_b106 h else (f_Tape_isWord 16 h).bind (fun r22 => if r22 = 0 then f_RuleReader_readClause_b106 h else (f_Tape_goOn h).bind (fun h27 => (f_RuleReader_rT 0 h27).bind cEnd)))
theorem wd_t {B : Nat → Nat} {t p i : Nat} (hi : i < 20) (h : isWd B t p i) : p < t := by
  have := wd_l hi h
  unfold ltB at this
  rw [Bool.and_eq_true] at this
  exact of_decide_eq_true this.1
theorem mat_A {b : xH} {t q : Nat} {B : Nat → Nat} {f : Nat} {A : Nat → Int32} (hf : f ≠ 47) (h : mat b t B q) : mat (xsA b f 0 A) t B q := ⟨mtx_of (h := b) rfl (rdA_n (show ¬ (47 = f ∧ 0 = 0) by omega)) h.1, h.2.1, h.2.2⟩
/-- behind the sum of a clause -/
theorem lk_cl2 {a b a3 b3 : xH} {t p R k k1 : Nat} {B : Nat → Nat} {cs : List Cl} {l : List (Nat × Nat)} (hi : clI a b R cs k) (n11 : cs.length < 12) (E : ex a b a3 b3 R (szc cs + cs.length) (szc cs) k l k1) (e31 : a3.2.2.1 = a.2.2.1) (e11 : b3.1 12 11 0 = nI R) (d1 : ∀ j, j < 48 * R + 4 * cs.length → b3.2.2.2.1 50 0 j = b.2.2.2.1 50 0 j) (d2 : b3.2.2.2.1 50 0 (48 * R + 4 * cs.length) = nI (szc cs)) (e51 : b3.2.2.2.1 51 0 R = nI cs.length) (e32 : a3.1 3 2 0 = nI (cs.length + 1)) (e14 : b3.1 12 14 0 = nI (cs.length + 1)) (hs : sy a3 b3 t B p) (fa : a3.1 7 9 0 = 0) (fb : b3.1 12 9 0 = 0) (G : exG l) (hL : szc cs + cs.length + l.length + 1 ≤ p) : ∃ a' r b', cRest a3 = some a' ∧ mL3 (nI (48 * R + 4 * cs.length)) b3 = some (r, b') ∧ ruC R a3 a' ∧ ruM R b3 b' ∧ ou a' b' t B R cs.length r := by
  obtain ⟨hz, i2, i3, i4, i5, i6, i7, i8⟩ := id hi
  have z3 : rz a3 b3 R (szc cs + cs.length + l.length) (szc cs + l.length) k1 := rz_ex hz E e31 (by rw [e11]; exact hz.2.2.2.1.symm)
  obtain ⟨z31, R6, z33, -, z35, z36, z37, k60, -⟩ := id z3
  obtain ⟨⟨E1, E2, E3, E4⟩, ⟨E5, E6, E7⟩, E8, E9, E10, E11⟩ := id E
  obtain ⟨ht, q, hm, hq⟩ := id hs
  have pt := tR_le ht
  have t4 := hm.1.2.1
  have sg : sumG l := sumG_of G (by omega)
  have cw : cRest a3 = (f_Tape_isWord 16 a3).bind (fun r22 => if r22 = 0 then f_RuleReader_readClause_b106 a3 else (f_Tape_goOn a3).bind (fun h27 => (f_RuleReader_rT 0 h27).bind cEnd)) := by
    unfold cRest
    rw [c_well, Option.bind_some, if_pos fa, if_neg i1]
  rw [show (16 : Int32) = nI 16 from rfl, c_isWordT ht (by decide), Option.bind_some] at cw
  obtain ⟨b4, eb4⟩ : ∃ b4, b4 = s50 (s50 b3 (48 * R + 4 * cs.length + 1) (nI (szc cs + l.length))) (48 * R + 4 * cs.length + 2) (-1) := ⟨_, rfl⟩
  have m4 : mat b4 t B q := by rw [eb4]; exact mat_A (by decide) (mat_A (by decide) hm)
  have b4I : b4.1 = b3.1 := by rw [eb4]; rfl
  have b4A : ∀ f i, ¬ f = 50 → b4.2.2.2.1 f i = b3.2.2.2.1 f i := fun f i z => by rw [eb4, s50_A z, s50_A z]
  have b40 : ∀ j, j < 48 * R + 4 * cs.length + 1 → b4.2.2.2.1 50 0 j = b3.2.2.2.1 50 0 j := fun j hj => by rw [eb4, s50_n (by omega), s50_n (by omega)]
  have b41 : b4.2.2.2.1 50 0 (48 * R + 4 * cs.length + 1) = nI (szc cs + l.length) := by rw [eb4, s50_n (by omega), s50_s]
  have b42 : b4.2.2.2.1 50 0 (48 * R + 4 * cs.length + 2) = -1 := by rw [eb4, s50_s]
  have f4 : ruM R b3 b4 := by rw [eb4]; exact ruM_t (ruM_50 (by omega)) (ruM_50 (by omega))
  have mw := m_L3 (b := b3) (R := R) (n := cs.length) R6 n11 e11 z35
  rw [← eb4, m_takesIf m4 hq, Option.bind_some] at mw
  by_cases W : isWd B t p 16
  · rw [ind_t W, if_neg i1] at cw
    rw [ind_t W, if_neg i1, @if_pos _ (Classical.propDecidable _) W] at mw
    have p1 := wd_t (by decide) W
    obtain ⟨b5, eb5⟩ : ∃ b5, b5 = xsI b4 12 8 0 (nI (rn isLB B t p)) := ⟨_, rfl⟩
    have mw : mL3 (nI (48 * R + 4 * cs.length)) b3 = mL4 (nI (48 * R + 4 * cs.length)) b5 := by rw [eb5]; exact mw
    have m5 : mat b5 t B (rn isLB B t p) := by rw [eb5]; exact mat_s m4 (rn_le p pt)
    have b5I : ∀ k, ¬ k = 8 → b5.1 12 k 0 = b3.1 12 k 0 := fun k z => by rw [eb5, rdI (by omega), b4I]
    have b5A : ∀ f i, b5.2.2.2.1 f i = b4.2.2.2.1 f i := fun f i => by rw [eb5]; rfl
    obtain ⟨b6, eb6⟩ : ∃ b6, b6 = s50 b5 (48 * R + 4 * cs.length + 2) (nI (szc cs + l.length)) := ⟨_, rfl⟩
    rw [m_L4 (R := R) (n := cs.length) (C := szc cs + l.length) R6 n11 (by rw [b5I 11 (by decide)]; exact e11) (by rw [b5A, b4A 49 0 (by decide)]; exact z35), ← eb6] at mw
    have m6 : mat b6 t B (rn isLB B t p) := by rw [eb6]; exact mat_A (by decide) m5
    have b6I : ∀ k, ¬ k = 8 → b6.1 12 k 0 = b3.1 12 k 0 := fun k z => by rw [eb6]; exact b5I k z
    have b6A : ∀ f i, ¬ f = 50 → b6.2.2.2.1 f i = b3.2.2.2.1 f i := fun f i z => by rw [eb6, s50_A z, b5A, b4A f i z]
    obtain ⟨a4, ea4, t4', f4', w4⟩ := c_goOnT ht
    have a42 := c_goOn2 ea4
    rw [ea4, Option.bind_some] at cw
    have C4 : sfC R a3 a4 := sfC_p f4' (by rw [a42])
    have ppn := nx_gt (B := B) p1
    have z6 : rz a4 b6 R (szc cs + cs.length + l.length) (szc cs + l.length) k1 := ⟨by rw [C4.2.2]; exact z31, R6, by rw [f4'.1 2 2 R (by decide)]; exact z33, by rw [b6I 11 (by decide)]; exact e11, by rw [b6A 49 0 (by decide)]; exact z35, by rw [f4'.1 3 3 0 (by decide)]; exact z36, by rw [b6I 12 (by decide)]; exact z37, k60, by omega⟩
    obtain ⟨a5, r, b7, ea5, eb7, f5, f7, o⟩ := lk_test (t := t) (B := B) (a := a4) (b := b6) (p := nxB B t p) ⟨t4', _, m6, nx_word (wd_l (by decide) W)⟩ (w4.trans fa) (by rw [b6I 9 (by decide)]; exact fb) z6 (by omega)
    rw [ea5, Option.bind_some] at cw
    rw [eb7, Option.bind_some] at mw
    have F5 : ruC R a3 a5 := ruC_t (ruC_s C4) (ruC_s f5)
    have F7 : ruM R b3 b7 := ruM_t f4 (ruM_t (show ruM R b4 b5 by rw [eb5]; exact ruM_I (by omega)) (ruM_t (show ruM R b5 b6 by rw [eb6]; exact ruM_50 (by omega)) (ruM_f f7)))
    have r5 : a5.2.2.1 3 1 0 = some R := by rw [F5.2.2]; exact z31
    rcases o with ⟨rfl, w5, x7, m, k2, p5, X, len5, lt5, s5, T5⟩ | ⟨rfl, K⟩
    · obtain ⟨⟨X1, X2, X3, X4⟩, ⟨X5, X6, X7⟩, X8, X9, X10, X11⟩ := id X
      have pt5 := tR_le s5.1
      have sq : szc [((l, some m) : Cl)] = l.length + m.length := rfl
      have X1 : a5.1 2 2 R = nI (szc cs + cs.length + l.length + m.length) := X1
      obtain ⟨a6, ea6, f6, y1, y2, y3, y4⟩ := c_addT (a := a5) (R := R) (v := 25) X1 (by omega) (by decide)
      have ce : cEnd a5 = some a6 := by
        unfold cEnd
        rw [r5, Option.bind_some, ea6, Option.bind_some]
      have b751 : b7.2.2.2.1 51 0 = b3.2.2.2.1 51 0 := by rw [f7.2.1 51 0 (by omega), b6A 51 0 (by decide)]
      have b750 : b7.2.2.2.1 50 0 = b6.2.2.2.1 50 0 := f7.2.1 50 0 (by omega)
      have ml := m_L110 (b := b7) (R := R) (n := cs.length) (C := szc cs + l.length + m.length) R6 n11 (by rw [f7.1 12 11 0 (by omega), b6I 11 (by decide)]; exact e11) X5 (by rw [b751]; exact e51)
      obtain ⟨b8, eb8⟩ : ∃ b8, b8 = xsA (s50 b7 (48 * R + 4 * cs.length + 3) (nI (szc cs + l.length + m.length))) 51 0 (upd (b7.2.2.2.1 51 0) R (nI (cs.length + 1))) := ⟨_, rfl⟩
      rw [← eb8] at ml
      rw [if_neg i1, ml] at mw
      have F8 : ruM R b7 b8 := by
        rw [eb8, show b7.2.2.2.1 51 0 = (s50 b7 (48 * R + 4 * cs.length + 3) (nI (szc cs + l.length + m.length))).2.2.2.1 51 0 from (s50_A (by decide)).symm]
        exact ruM_t (ruM_50 (by omega)) ruM_51
      have b8I : b8.1 = b7.1 := by rw [eb8]; rfl
      have b8A : ∀ f i, ¬ f = 50 → ¬ f = 51 → b8.2.2.2.1 f i = b7.2.2.2.1 f i := fun f i z z' => by rw [eb8, rdA_n (by omega), s50_A z]
      have b80 : ∀ j, j < 48 * R + 4 * cs.length + 3 → b8.2.2.2.1 50 0 j = b6.2.2.2.1 50 0 j := fun j hj => by rw [eb8, rdA_n (by decide), s50_n (by omega), b750]
      have b83 : b8.2.2.2.1 50 0 (48 * R + 4 * cs.length + 3) = nI (szc cs + l.length + m.length) := by rw [eb8, rdA_n (by decide), s50_s]
      have b60 : ∀ j, j < 48 * R + 4 * cs.length + 2 → b6.2.2.2.1 50 0 j = b4.2.2.2.1 50 0 j := fun j hj => by rw [eb6, s50_n (by omega), b5A]
      have b62 : b6.2.2.2.1 50 0 (48 * R + 4 * cs.length + 2) = nI (szc cs + l.length) := by rw [eb6, s50_s]
      have a418 : a4.2.2.2.1 18 R = a3.2.2.2.1 18 R := f4'.2 18 R (by omega)
      have b648 : b6.2.2.2.1 48 0 = b3.2.2.2.1 48 0 := b6A 48 0 (by decide)
      have np2 : np m ≤ 60 := by omega
      refine ⟨a6, 1, b8, by rw [cw]; exact ce, mw, ruC_t F5 (ruC_s (sfC_a f6)), ruM_t F7 F8, Or.inl ⟨rfl, by rw [f6.1 7 9 0 (by omega)]; exact w5, by rw [b8I]; exact x7, cs ++ [(l, some m)], k2, p5, ?_, by rw [List.length_append]; rfl, by rw [List.length_append, szc_a, sq]; show szc cs + (l.length + m.length) + (cs.length + 1) ≤ p5; omega, ?_⟩⟩
      · refine clI_a (q := (l, some m)) hi ?_ (fun j hj => ?_) (fun j hj => ?_) (fun j hj => ?_) ?_ ?_ ?_ ?_ ?_ n11 ?_
        · rw [sq]
          refine ⟨by rw [f6.2.2]; exact r5, R6, ?_, ?_, ?_, ?_, ?_, X10, by omega⟩
          · rw [y1]; congr 1; omega
          · rw [b8I, f7.1 12 11 0 (by omega), b6I 11 (by decide)]; exact e11
          · rw [b8A 49 0 (by decide) (by decide), X5]; congr 1; omega
          · rw [f6.1 3 3 0 (by omega)]; exact X8
          · rw [b8I]; exact X9
        · rw [b8A 48 0 (by decide) (by decide), X6 j (by omega), b648]
          exact E6 j hj
        · rw [b80 j (by omega), b60 j (by omega), b40 j (by omega)]
          exact d1 j hj
        · rw [y2 j (by omega), X2 j (by omega), a418]
          exact E2 j hj
        · refine ⟨?_, ?_, by omega, ?_, sg, ?_, ?_, by omega, ?_, tstG_of T5 np2, trivial⟩
          · rw [b80 _ (by omega), b60 _ (by omega), b40 _ (by omega)]; exact d2
          · rw [b80 _ (by omega), b60 _ (by omega)]; exact b41
          · refine tkA_c (fun j hj => ?_) E7
            rw [b8A 48 0 (by decide) (by decide), X6 j (by omega), b648]
          · rw [b80 _ (by omega)]; exact b62
          · exact b83
          · rw [b8A 48 0 (by decide) (by decide)]; exact X7
        · refine ⟨?_, sg, ?_, tstG_of T5 np2, ?_, trivial⟩
          · refine ckA_c (fun j hj => ?_) E3
            rw [y2 j (by omega), X2 j (by omega), a418]
          · exact ckA_c (fun j hj => y2 j hj) X3
          · exact y3
        · rw [eb8, rdA_s, pk_us]
        · rw [f6.1 3 2 0 (by omega), f5.1 3 2 0 (by omega) (by omega) (by omega), f4'.1 3 2 0 (by omega)]; exact e32
        · rw [b8I, f7.1 12 14 0 (by omega), b6I 14 (by decide)]; exact e14
        · rw [y4]
          rcases X4 with X4 | ⟨X4, X4'⟩
          · exact Or.inl X4
          · rw [f4'.1 2 3 R (by decide)] at X4
            rcases E4 with E4 | ⟨E4, E4'⟩
            · exact Or.inl (X4.trans E4)
            · refine Or.inr ⟨X4.trans E4, E4', fun l' hl' => ?_⟩
              have hl2 : m = l' := Option.some.inj hl'
              rw [← hl2]
              exact X4'
      · obtain ⟨tt, q', mm, hq'⟩ := s5
        refine ⟨tR_ad f6 tt, q', ?_, hq'⟩
        rw [eb8]
        exact mat_A (by decide) (mat_A (by decide) mm)
    · rw [if_pos rfl] at mw
      obtain ⟨a6, ea6, f6, s6, w6⟩ := v_addR (a := a5) (R := R) (t := t) (B := B) 25 (f := fun h34 => some h34) ⟨r5, K.1, K.2.2⟩ (fun a1 s1 => v_s s1)
      exact ⟨a6, 0, b7, by rw [cw]; exact ea6, mw, ruC_t F5 (ruC_s f6), F7, Or.inr ⟨rfl, fk_v K s6.2.1 w6⟩⟩
  · rw [ind_f W, if_pos rfl] at cw
    rw [ind_f W, if_pos rfl, @if_neg _ (Classical.propDecidable _) W] at mw
    obtain ⟨b5, eb5⟩ : ∃ b5, b5 = xsI b4 12 8 0 (nI p) := ⟨_, rfl⟩
    have mw : mL3 (nI (48 * R + 4 * cs.length)) b3 = f_M_isLiftHere_b110 (nI (48 * R + 4 * cs.length)) b5 := by rw [eb5]; exact mw
    have m5 : mat b5 t B p := by rw [eb5]; exact mat_s m4 pt
    have hp : rn isSB B t p = p := by rw [← hq]; exact rn_id
    have b5I : ∀ k, ¬ k = 8 → b5.1 12 k 0 = b3.1 12 k 0 := fun k z => by rw [eb5, rdI (by omega), b4I]
    have b5A : ∀ f i, b5.2.2.2.1 f i = b4.2.2.2.1 f i := fun f i => by rw [eb5]; rfl
    have b551 : b5.2.2.2.1 51 0 = b3.2.2.2.1 51 0 := by rw [b5A, b4A 51 0 (by decide)]
    have sq : szc [((l, none) : Cl)] = l.length := rfl
    obtain ⟨a6, ea6, f6, y1, y2, y3, y4⟩ := c_addT (a := a3) (R := R) (v := 26) z33 (by omega) (by decide)
    have ce : f_RuleReader_readClause_b106 a3 = some a6 := by
      show (a3.2.2.1 3 1 0).bind (fun i => (f_Rule_add i 26 a3).bind (fun h21 => some h21)) = _
      rw [z31, Option.bind_some, ea6, Option.bind_some]
    have ml := m_L110 (b := b5) (R := R) (n := cs.length) (C := szc cs + l.length) R6 n11 (by rw [b5I 11 (by decide)]; exact e11) (by rw [b5A, b4A 49 0 (by decide)]; exact z35) (by rw [b551]; exact e51)
    obtain ⟨b8, eb8⟩ : ∃ b8, b8 = xsA (s50 b5 (48 * R + 4 * cs.length + 3) (nI (szc cs + l.length))) 51 0 (upd (b5.2.2.2.1 51 0) R (nI (cs.length + 1))) := ⟨_, rfl⟩
    rw [← eb8] at ml
    rw [ml] at mw
    have F8 : ruM R b5 b8 := by
      rw [eb8, show b5.2.2.2.1 51 0 = (s50 b5 (48 * R + 4 * cs.length + 3) (nI (szc cs + l.length))).2.2.2.1 51 0 from (s50_A (by decide)).symm]
      exact ruM_t (ruM_50 (by omega)) ruM_51
    have b8I : b8.1 = b5.1 := by rw [eb8]; rfl
    have b8A : ∀ f i, ¬ f = 50 → ¬ f = 51 → b8.2.2.2.1 f i = b3.2.2.2.1 f i := fun f i z z' => by rw [eb8, rdA_n (by omega), s50_A z, b5A, b4A f i z]
    have b80 : ∀ j, j < 48 * R + 4 * cs.length + 3 → b8.2.2.2.1 50 0 j = b4.2.2.2.1 50 0 j := fun j hj => by rw [eb8, rdA_n (by decide), s50_n (by omega), b5A]
    refine ⟨a6, 1, b8, by rw [cw]; exact ce, mw, ruC_s (sfC_a f6), ruM_t f4 (ruM_t (show ruM R b4 b5 by rw [eb5]; exact ruM_I (by omega)) F8), Or.inl ⟨rfl, by rw [f6.1 7 9 0 (by omega)]; exact fa, by rw [b8I, b5I 9 (by decide)]; exact fb, cs ++ [(l, none)], k1, p, ?_, by rw [List.length_append]; rfl, by rw [List.length_append, szc_a, sq]; show szc cs + l.length + (cs.length + 1) ≤ p; omega, ?_⟩⟩
    · refine clI_a (q := (l, none)) hi ?_ (fun j hj => ?_) (fun j hj => ?_) (fun j hj => ?_) ?_ ?_ ?_ ?_ ?_ n11 ?_
      · rw [sq]
        refine ⟨by rw [f6.2.2]; exact z31, R6, y1, ?_, ?_, ?_, ?_, k60, by omega⟩
        · rw [b8I, b5I 11 (by decide)]; exact e11
        · rw [b8A 49 0 (by decide) (by decide)]; exact z35
        · rw [f6.1 3 3 0 (by omega)]; exact z36
        · rw [b8I, b5I 12 (by decide)]; exact z37
      · rw [b8A 48 0 (by decide) (by decide)]
        exact E6 j hj
      · rw [b80 j (by omega), b40 j (by omega)]
        exact d1 j hj
      · rw [y2 j (by omega)]
        exact E2 j hj
      · refine ⟨?_, ?_, by omega, ?_, sg, ?_, trivial⟩
        · rw [b80 _ (by omega), b40 _ (by omega)]; exact d2
        · rw [b80 _ (by omega)]; exact b41
        · rw [b8A 48 0 (by decide) (by decide)]; exact E7
        · rw [b80 _ (by omega)]; exact b42
      · exact ⟨ckA_c (fun j hj => y2 j hj) E3, sg, y3, trivial⟩
      · rw [eb8, rdA_s, pk_us]
      · rw [f6.1 3 2 0 (by omega)]; exact e32
      · rw [b8I, b5I 14 (by decide)]; exact e14
      · rw [y4]
        rcases E4 with E4 | ⟨E4, E4'⟩
        · exact Or.inl E4
        · exact Or.inr ⟨E4, E4', fun l' hl' => absurd (show (none : Option (List (Nat × Nat))) = some l' from hl') (fun z => by (cases z))⟩
    · refine ⟨tR_ad f6 ht, p, ?_, hp⟩
      rw [eb8]
      exact mat_A (by decide) (mat_A (by decide) m5)
