/-! PURE: rule: facts joined by and, parts joined by or -/
/-- as go, with any end E, and what is pending at least as strong as x -/
def gq (t : Nat) (B : Nat → Nat) (R x : Nat) (E : Nat → Prop) (a b a' : xH) (X : Option (Int32 × xH)) (L C k p d : Nat) (S : List Nat) : Prop := (a'.1 7 9 0 = 0 ∧ ∃ b' l π k' p', X = mG b' ∧ b'.1 12 9 0 = 0 ∧ exP a b a' b' R L C k l π k' ∧ l.length + π.length + p ≤ p' ∧ p < p' ∧ sy a' b' t B p' ∧ exT (l ++ tk0 π) ∧ tz b' d (π ++ S) ∧ tfM R b b' ∧ (∀ y, y ∈ π → (y = 12 ∨ y = 13) ∧ str x ≤ str y) ∧ π.length + S.length ≤ p' ∧ E p') ∨ ∃ b', X = some (0, b') ∧ fk a' b' t B ∧ tfM R b b'
def SUBx (t : Nat) (B : Nat → Nat) (R x : Nat) (E : Nat → Prop) (v : Nat) (cb : Int32 → xH → Option xH) : Prop := ∀ a b p L C k S, sy a b t B p → a.1 7 9 0 = 0 → b.1 12 9 0 = 0 → rz a b R L C k → L ≤ p → S.length ≤ p → tz b v S → (∀ y T, S = y :: T → str y ≤ str x) → ∃ a', cb (nI v) a = some a' ∧ sfC R a a' ∧ gq t B R x E a b a' (mF b) L C k p v S
theorem np_tk0 {π : List Nat} (h : ∀ y, y ∈ π → y = 12 ∨ y = 13) : np (tk0 π) = 0 := by
  unfold np tk0
  rw [List.filter_eq_nil_iff.mpr (fun y hy => by
    obtain ⟨x, hx, rfl⟩ := List.mem_map.mp hy
    have := h x hx
    simp
    omega)]
  rfl
theorem tk0_a {π ρ : List Nat} : tk0 (π ++ ρ) = tk0 π ++ tk0 ρ := List.map_append ..
/-- one step of such a loop, of the class -/
noncomputable def stp (w c : Int32) (cb : Int32 → xH → Option xH) (v : Int32) (s : Int32 × xH) : Option ((Int32 × xH) ⊕ xH) := if (400 : Int32) ≤ s.1 then some (Sum.inr s.2) else (f_Tape_isWell s.2).bind (fun r5 => if r5 = 0 then some (Sum.inr s.2) else (f_Tape_isWord w s.2).bind (fun r8 => if r8 = 0 then some (Sum.inr s.2) else (f_Tape_goOn s.2).bind (fun h13 => (cb v h13).bind (fun h16 => (h16.2.2.1 3 1 0).bind (fun i => (f_Rule_add i c h16).bind (fun h20 => some (Sum.inl (s.1 + 1, h20))))))))
theorem chain {t R x w v : Nat} {B : Nat → Nat} {E : Nat → Prop} {cb : Int32 → xH → Option xH} (hxw : (x = 12 ∧ w = 18) ∨ (x = 13 ∧ w = 17)) (U : SUBx t B R x E v cb) (S : List Nat) (hS : ∀ y T, S = y :: T → str y < str x) : ∀ n u (a b a1 b1 : xH) (p p1 L C k k1 : Nat) (l : List (Nat × Nat)) (π : List Nat), t - p1 ≤ n → u ≤ p1 → sfC R a a1 → a1.1 7 9 0 = 0 → b1.1 12 9 0 = 0 → rz a b R L C k → L ≤ p → exP a b a1 b1 R L C k l π k1 → l.length + π.length + p ≤ p1 → p < p1 → sy a1 b1 t B p1 → exT (l ++ tk0 π) → tz b1 v (π ++ S) → tfM R b b1 → (∀ y, y ∈ π → (y = 12 ∨ y = 13) ∧ str x ≤ str y) → π.length + S.length ≤ p1 → E p1 → ∃ a', whl (stp (nI w) (nI (cN (x, 0))) cb (nI v)) (nI u, a1) = some a' ∧ sfC R a a' ∧ gq t B R x (fun q => E q ∧ ¬ isWd B t q w) a b a' (mG b1) L C k p v S := by
  intro n
  induction n with
  | zero =>
    intro u a b a1 b1 p p1 L C k k1 l π hn hu f1 fa fb hz hL x1 x2 x3 x4 x5 x6 x7 x8 x9 x10
    have nw : ¬ isWd B t p1 w := fun z => by
      have := (ltB_t.mp (wd_l (by omega) z)).1
      omega
    refine ⟨a1, whl_en ?_, f1, Or.inl ⟨fa, b1, l, π, k1, p1, rfl, fb, x1, x2, x3, x4, x5, x6, x7, x8, x9, x10, nw⟩⟩
    unfold stp
    rw [c_well, Option.bind_some, if_pos fa, if_neg i1, c_isWordT x4.1 (by omega), Option.bind_some, ind_f nw, if_pos rfl]
    split <;> rfl
  | succ n ih =>
    intro u a b a1 b1 p p1 L C k k1 l π hn hu f1 fa fb hz hL x1 x2 x3 x4 x5 x6 x7 x8 x9 x10
    by_cases hw : isWd B t p1 w
    · have wl := wd_l (by omega) hw
      have pt1 := (ltB_t.mp wl).1
      obtain ⟨tt, q, hm, hq⟩ := id x4
      have t4 := hm.1.2.1
      have hp : rn isSB B t p1 = p1 := by rw [← hq]; exact rn_id
      have hR : R < 6 := hz.2.1
      have CL : C ≤ L := hz.2.2.2.2.2.2.2.2
      obtain ⟨y1, y2, y3, y4, y5, y6⟩ := x1
      have l4 : (π ++ S).length < 400 := by rw [List.length_append]; omega
      have gs := m_Gstop x6 (by omega) (fun T e => by
        cases π with
        | nil => have := hS 11 T e; have h3 : str x ≤ 2 := by rcases hxw with ⟨rfl, _⟩ | ⟨rfl, _⟩ <;> decide
                 have : str 11 = 3 := rfl
                 omega
        | cons y π' =>
          have := (x8 y (List.mem_cons_self ..)).1
          injection e with e1 e2
          omega)
      have n93 : ¬ B p1 = 93 := fun z => by
        have := of_decide_eq_true (ltB_t.mp wl).2
        rw [z] at this
        omega
      have cn := m_ClNo hm hq x6 (by omega) (fun z => n93 z.2.1)
      obtain ⟨h, eh⟩ : ∃ h, h = xsI b1 12 8 0 (nI p1) := ⟨_, rfl⟩
      rw [← eh] at cn
      have mh : mat h t B p1 := by rw [eh]; exact mat_s hm (by omega)
      have hI : ∀ k, ¬ k = 8 → h.1 12 k 0 = b1.1 12 k 0 := fun k z => by rw [eh, rdI (by omega)]
      obtain ⟨b2, e2, z2, m2, f2, mt2, k2⟩ := m_K2op (R := R) (C := C + l.length) (π := π) (S := S) mh hp hxw hw (by rw [eh]; exact tz_of (rdI (by decide)) (rdI (by decide)) rfl x6) x8 hS l4 hR (by rw [hI 11 (by decide), x7.1 12 11 0 (by omega)]; exact hz.2.2.2.1) (by rw [eh]; exact y2.1) (by omega)
      obtain ⟨a2, ea2, t2, g2, w2⟩ := c_goOnT tt
      have e3 := c_goOn2 ea2
      have ng := nx_gt (B := B) pt1
      have tl : (l ++ tk0 π).length = l.length + π.length := by rw [List.length_append, tk0_len]
      have p12 : ∀ y, y ∈ π → y = 12 ∨ y = 13 := fun y hy => (x8 y hy).1
      have am : apM b b2 R C (l ++ tk0 π) := apM_t (l := l) (b := b1) y2 ⟨m2.1, fun j hj => by rw [m2.2.1 j hj, eh]; rfl, m2.2.2⟩
      have ac : apC a a2 R L (l ++ tk0 π) := by
        obtain ⟨c1, c2, c3, c4⟩ := y1
        have r18 : a2.2.2.2.1 18 R = a1.2.2.2.1 18 R := by rw [e3]
        refine ⟨by rw [g2.1 2 2 R (by omega)]; exact c1, fun j hj => by rw [r18, c2 j hj], by rw [r18]; exact c3, ?_⟩
        rw [g2.1 2 3 R (by omega)]
        exact c4
      have ex0 : ex a b a2 b2 R L C k (l ++ tk0 π) k1 := ⟨ac, am, by rw [g2.1 3 3 0 (by decide)]; exact y3, by rw [k2 12 (by decide), hI 12 (by decide)]; exact y4, y5, by rw [np_a, np_tk0 p12]; omega⟩
      have fb2 : tfM R b b2 := tfM_t x7 (tfM_t (by rw [eh]; exact tfM_I (by omega)) f2)
      have fA2 : sfC R a a2 := sfC_t f1 (sfC_p g2 (by rw [e3]))
      have z3 := rz_ex hz ex0 fA2.2.2 (fb2.1 12 11 0 (by omega))
      obtain ⟨a3, ea3, f3, o⟩ := U a2 b2 (nxB B t p1) _ _ k1 (x :: S) ⟨t2, _, mt2, nx_word wl⟩ (w2.trans fa) (by rw [k2 9 (by decide), hI 9 (by decide)]; exact fb) z3 (by rw [tl]; omega) (by show S.length + 1 ≤ _; omega) z2 (fun y T e => by cases e; exact Nat.le_refl _)
      have fA3 : sfC R a a3 := sfC_t fA2 f3
      have st : stp (nI w) (nI (cN (x, 0))) cb (nI v) (nI u, a1) = (f_Rule_add R (nI (cN (x, 0))) a3).bind (fun h20 => some (Sum.inl (nI u + 1, h20))) := by
        unfold stp
        rw [if_neg (show ¬ (400 : Int32) ≤ nI u from nI_ge (b := 400) (by omega) (by decide)), c_well, Option.bind_some, if_pos fa, if_neg i1, c_isWordT tt (by omega), Option.bind_some, ind_t hw, if_neg i1, ea2, Option.bind_some, ea3, Option.bind_some, fA3.2.2, hz.1, Option.bind_some]
      have eX : mG b1 = mF b2 := (gs.trans cn).trans e2
      rcases o with ⟨u1, b3, l3, π3, k3, p3, u2, u3, ⟨v1, v2, v3, v4, v5, v6⟩, u5, u6, u7, u8, u9, u10, u11, u12, u13⟩ | ⟨b3, u1, u2, u3⟩
      · have pt3 := tR_le u7.1
        have t3l : (l3 ++ tk0 π3).length = l3.length + π3.length := by rw [List.length_append, tk0_len]
        obtain ⟨a4, ea4, ad, ap⟩ := c_add (a := a3) (R := R) (L := L + (l ++ tk0 π).length + (l3 ++ tk0 π3).length) (t := (x, 0)) v1.1 (by rw [tl, t3l]; omega) (by rcases hxw with ⟨rfl, _⟩ | ⟨rfl, _⟩ <;> exact ⟨by decide, by decide, fun z => absurd z (by decide)⟩)
        rw [ea4, Option.bind_some, nI_1] at st
        rw [whl_st st]
        have q12 : ∀ y, y ∈ π3 → y = 12 ∨ y = 13 := fun y hy => (u11 y hy).1
        have ac4 : apC a a4 R L ((l ++ tk0 π ++ l3) ++ tk0 (π3 ++ [x])) := by
          have := apC_t ac (apC_t v1 ap)
          rw [tk0_a, List.append_assoc, List.append_assoc]
          rw [List.append_assoc, List.append_assoc] at this
          exact this
        have exx : exT ((l ++ tk0 π ++ l3) ++ tk0 (π3 ++ [x])) := by
          have := exT_op (o := x) (by omega) x5 u8
          rw [tk0_a, List.append_assoc, List.append_assoc]
          rw [List.append_assoc, List.append_assoc] at this
          exact this
        rw [eX, u2]
        exact ih (u + 1) a b a4 b3 p p3 L C k k3 (l ++ tk0 π ++ l3) (π3 ++ [x]) (by omega) (by omega) (sfC_t fA3 (sfC_a ad)) (by rw [ad.1 7 9 0 (by omega)]; exact u1) u3 hz hL ⟨ac4, apM_t am v2, by rw [ad.1 3 3 0 (by omega)]; exact v3, v4, v5, by rw [np_a, np_a, np_tk0 p12]; omega⟩ (by rw [List.length_append, List.length_append, tk0_len, List.length_append]; show l.length + π.length + l3.length + (π3.length + 1) + p ≤ p3; omega) (by omega) ⟨tR_ad ad u7.1, u7.2⟩ exx (by rw [List.append_assoc]; exact u9) (tfM_t fb2 u10) (fun y hy => by
          rcases List.mem_append.mp hy with z | z
          · exact u11 y z
          · rw [List.mem_singleton.mp z]; exact ⟨by omega, Nat.le_refl _⟩) (by rw [List.length_append]; show π3.length + 1 + S.length ≤ p3; have u12 : π3.length + (S.length + 1) ≤ p3 := u12; omega) u13
      · obtain ⟨a4, ea4, f4, s4, w4⟩ := v_add (R := R) (t := t) (B := B) (a := a3) (nI (cN (x, 0))) ⟨by rw [fA3.2.2]; exact hz.1, u2.1, u2.2.2⟩
        rw [ea4, Option.bind_some] at st
        refine ⟨a4, by
          rw [whl_st st]
          refine whl_en ?_
          unfold stp
          rw [c_well, Option.bind_some, if_neg s4.2.2, if_pos rfl]
          split <;> rfl, sfC_t fA3 f4, Or.inr ⟨b3, eX.trans u1, ⟨s4.2.1, w4.trans u2.2.1, s4.2.2⟩, tfM_t fb2 u3⟩⟩
    · refine ⟨a1, whl_en ?_, f1, Or.inl ⟨fa, b1, l, π, k1, p1, rfl, fb, x1, x2, x3, x4, x5, x6, x7, x8, x9, x10, hw⟩⟩
      unfold stp
      rw [c_well, Option.bind_some, if_pos fa, if_neg i1, c_isWordT x4.1 (by omega), Option.bind_some, ind_f hw, if_pos rfl]
      split <;> rfl
