/-! PURE: taken -/
/-- the class: the fewest so far -/
def tkC (rg : Nat → Nat) (a k f : Nat) : Nat := if k &&& a = k ∧ pc k < pc f then (if rg (a &&& (255 ^^^ k)) = 0 then k else f) else f
/-- the reference: the fewest so far, none at first -/
def tkM (rg : Nat → Nat) (a k : Nat) (b : Option Nat) : Option Nat := if k &&& a = k ∧ (∀ f, b = some f → pc k < pc f) then (if rg (a &&& (255 ^^^ k)) = 0 then some k else b) else b
theorem and_or_of {k a : Nat} (h : k &&& a = k) : k ||| a = a := Sub_or (fun j hj => by
  rw [← h, Nat.testBit_and, Bool.and_eq_true] at hj
  exact hj.2)
theorem tk_rel {rg : Nat → Nat} {a : Nat} (ha : a < 256) (h0 : rg (a &&& (255 ^^^ a)) = 0) : ∀ k, k ≤ a + 1 → (fold (tkM rg a) none k = some (fold (tkC rg a) a k)) ∨ (fold (tkM rg a) none k = none ∧ fold (tkC rg a) a k = a ∧ k ≤ a)
  | 0, _ => Or.inr ⟨rfl, rfl, by omega⟩
  | k + 1, hk => by
    have ih := tk_rel ha h0 k (by omega)
    show tkM rg a k (fold (tkM rg a) none k) = some (tkC rg a k (fold (tkC rg a) a k)) ∨ (tkM rg a k (fold (tkM rg a) none k) = none ∧ tkC rg a k (fold (tkC rg a) a k) = a ∧ k + 1 ≤ a)
    rcases ih with e | ⟨e1, e2, e3⟩
    · left
      rw [e]
      generalize fold (tkC rg a) a k = f
      unfold tkM tkC
      by_cases c1 : k &&& a = k ∧ pc k < pc f
      · rw [if_pos ⟨c1.1, fun g hg => by rw [← Option.some.inj hg]; exact c1.2⟩, if_pos c1]
        split <;> rfl
      · rw [if_neg (fun z => c1 ⟨z.1, z.2 f rfl⟩), if_neg c1]
    · rw [e1, e2]
      unfold tkM tkC
      by_cases c1 : k &&& a = k
      · have q1 : k &&& a = k ∧ ∀ f, (none : Option Nat) = some f → pc k < pc f := ⟨c1, fun f hf => by cases hf⟩
        rw [if_pos q1]
        by_cases c2 : k = a
        · left
          subst c2
          rw [if_pos h0, if_neg (fun z => absurd z.2 (Nat.lt_irrefl _))]
        · have q2 : k &&& a = k ∧ pc k < pc a := ⟨c1, pc_sub k (by omega) a ha (and_or_of c1) c2⟩
          rw [if_pos q2]
          by_cases c3 : rg (a &&& (255 ^^^ k)) = 0
          · rw [if_pos c3, if_pos c3]
            exact Or.inl rfl
          · rw [if_neg c3, if_neg c3]
            exact Or.inr ⟨rfl, rfl, by omega⟩
      · rw [if_neg (fun z => c1 z.1), if_neg (fun z => c1 z.1)]
        refine Or.inr ⟨rfl, rfl, ?_⟩
        by_cases c2 : k = a
        · subst c2
          exact absurd (Nat.and_self _) c1
        · omega
theorem tkC_lt {rg : Nat → Nat} {a : Nat} (ha : a < 256) : ∀ k, k ≤ 256 → fold (tkC rg a) a k < 256
  | 0, _ => ha
  | k + 1, hk => by
    have ih := tkC_lt (rg := rg) ha k (by omega)
    show tkC rg a k (fold (tkC rg a) a k) < 256
    unfold tkC
    split
    · split
      · omega
      · exact ih
    · exact ih
theorem c_fewest {h : xH} {n a : Nat} {U : Nat → Nat} (h8 : n ≤ 8) (hU : ∀ k, k < n → h.2.2.2.1 30 0 k = nI (U k) ∧ U k < 256) (ha : a < 256) (haN : ∀ o, a.testBit o = true → o < n) (e62 : h.1 6 2 0 = nI a) : ∃ A, f_Sets_fewestForNoRings 0 h = some (nI (fold (tkC (fun S => rgB U S n) a) a 256), xsA h 28 0 A) := by
  have key := whl_cntE (step := fun s : Int32 × Int32 × xH => f_Sets_fewestForNoRings_s7 0 s.1 s.2.1 s.2.2) 256 (fun k s => ∃ A, s = (nI (fold (tkC (fun S => rgB U S n) a) a k), nI k, xsA h 28 0 A)) (fun x => ∃ A, x = (nI (fold (tkC (fun S => rgB U S n) a) a 256), xsA h 28 0 A)) ?_ ?_ (nI a, 0, h) ⟨h.2.2.2.1 28 0, by rw [xsA_id, nI_0]; rfl⟩
  · obtain ⟨x, e, A, rfl⟩ := key
    refine ⟨A, ?_⟩
    show whl (fun s : Int32 × Int32 × xH => f_Sets_fewestForNoRings_s7 0 s.1 s.2.1 s.2.2) (h.1 6 2 0, 0, h) = _
    rw [e62, e]
  · rintro k hk s ⟨A, rfl⟩
    left
    show ∃ s', f_Sets_fewestForNoRings_s7 0 (nI (fold (tkC (fun S => rgB U S n) a) a k)) (nI k) (xsA h 28 0 A) = some (Sum.inl s') ∧ ∃ A', s' = (nI (tkC (fun S => rgB U S n) a k (fold (tkC (fun S => rgB U S n) a) a k)), nI (k + 1), xsA h 28 0 A')
    have hf := tkC_lt (rg := fun S => rgB U S n) ha k (by omega)
    generalize fold (tkC (fun S => rgB U S n) a) a k = f at hf ⊢
    unfold f_Sets_fewestForNoRings_s7 tkC
    have e6 : (xsA h 28 0 A).1 6 2 0 = nI a := e62
    rw [e6, if_neg (show ¬ (256 : Int32) ≤ nI k from nI_ge (b := 256) hk (by decide)), c_bitCount hk, Option.bind_some, c_bitCount hf, Option.bind_some]
    by_cases c1 : k &&& a = k
    · rw [if_pos ((sb_sub k hk a ha).mpr c1)]
      by_cases c2 : pc k < pc f
      · have p8 := pc_le f hf
        rw [if_neg (nI_ge c2 (by omega)), if_pos ⟨c1, c2⟩]
        have hS : a &&& (255 ^^^ k) < 256 := Nat.lt_of_le_of_lt Nat.and_le_left ha
        obtain ⟨A', eA⟩ := c_ringsAmong (h := xsA h 28 0 A) (i2 := 0) (U := U) (S := a &&& (255 ^^^ k)) h8 (fun j hj => by rw [rdA_n (by decide)]; exact hU j hj) hS (fun o ho => by
          rw [Nat.testBit_and, Bool.and_eq_true] at ho
          exact haN o ho.1)
        unfold f_Sets_fewestForNoRings_b41
        rw [if_neg (by decide), e6, sb_dif a ha k hk, eA, Option.bind_some, xsA_2]
        have hr : rgB U (a &&& (255 ^^^ k)) n < 256 := bs_lt8 _ h8
        by_cases c3 : rgB U (a &&& (255 ^^^ k)) n = 0
        · rw [if_pos c3, c3, if_pos nI_0]
          exact ⟨_, rfl, A', by rw [nI_1]⟩
        · rw [if_neg c3, if_neg (nI_ne0 (by omega) (by omega))]
          exact ⟨_, rfl, A', by rw [nI_1]⟩
      · have p8 := pc_le k hk
        rw [if_pos (nI_le (by omega) (by omega)), if_neg (fun z => c2 z.2)]
        exact ⟨_, rfl, A, by rw [nI_1]⟩
    · rw [if_neg (fun z => c1 ((sb_sub k hk a ha).mp z)), if_neg (fun z => c1 z.1)]
      exact ⟨_, rfl, A, by rw [nI_1]⟩
  · rintro s ⟨A, rfl⟩
    refine ⟨_, ?_, A, rfl⟩
    show f_Sets_fewestForNoRings_s7 0 _ (nI 256) (xsA h 28 0 A) = _
    unfold f_Sets_fewestForNoRings_s7
    rw [if_pos (show (256 : Int32) ≤ nI 256 by decide)]
/-- none as -1 -/
def oI : Option Nat → Int32
  | none => -1
  | some x => nI x
theorem m_taken29 {h : xH} {n a f : Nat} {U : Nat → Nat} (hn : mN h n) (hU : ∀ k, k < n → mS h (36 + k) = nI (U k) ∧ U k < 256) (ha : a < 256) (hf : fold (tkM (fun S => rgB U S n) a) none (a + 1) = some f) (v1 : Int32) : f_M_taken_l29 v1 (nI a) (-1) 0 h = f_M_taken_b85 v1 (nI f) h := by
  have hlt : ∀ k, k ≤ a + 1 → ∀ g, fold (tkM (fun S => rgB U S n) a) none k = some g → g < 256 := by
    intro k
    induction k with
    | zero => intro _ g hg; cases hg
    | succ k ih =>
      intro hk g hg
      have hg' : tkM (fun S => rgB U S n) a k (fold (tkM (fun S => rgB U S n) a) none k) = some g := hg
      unfold tkM at hg'
      split at hg'
      · split at hg'
        · cases hg'; omega
        · exact ih (by omega) g hg'
      · exact ih (by omega) g hg'
  cases hb : f_M_taken_b85 v1 (nI f) h with
  | none =>
    exfalso
    unfold f_M_taken_b85 at hb
    rw [m_bits (hlt (a + 1) (Nat.le_refl _) f hf)] at hb
    split at hb <;> cases hb
  | some r =>
    refine whl_cnt (step := fun s => f_M_taken_s29 v1 (nI a) s.1 s.2 h) (a + 1) (fun k => (oI (fold (tkM (fun S => rgB U S n) a) none k), nI k)) r (fun k hk => ?_) ?_
    · show f_M_taken_s29 v1 (nI a) (oI (fold (tkM (fun S => rgB U S n) a) none k)) (nI k) h = some (Sum.inl (oI (tkM (fun S => rgB U S n) a k (fold (tkM (fun S => rgB U S n) a) none k)), nI (k + 1)))
      have hg := hlt k (by omega)
      generalize fold (tkM (fun S => rgB U S n) a) none k = b at hg ⊢
      have hS : a &&& (255 ^^^ k) < 256 := Nat.lt_of_le_of_lt Nat.and_le_left ha
      have hr : rgB U (a &&& (255 ^^^ k)) n < 256 := bs_lt8 _ hn.2
      have b63 : ∀ x : Option Nat, f_M_taken_b63 v1 (nI a) (oI x) (nI k) h = some (Sum.inl (oI (if rgB U (a &&& (255 ^^^ k)) n = 0 then some k else x), nI (k + 1))) := by
        intro x
        unfold f_M_taken_b63
        rw [sb_dif a ha k (by omega), m_ringsIn hn hU hS, Option.bind_some, ← nI_1]
        by_cases c3 : rgB U (a &&& (255 ^^^ k)) n = 0
        · rw [if_pos c3, c3, if_pos nI_0]
          rfl
        · rw [if_neg c3, if_neg (nI_ne0 (by omega) (by omega))]
          rfl
      unfold f_M_taken_s29 tkM
      rw [if_neg (nI_nlt (by omega) (by omega))]
      by_cases c1 : k &&& a = k
      · rw [if_pos ((sb_sub k (by omega) a ha).mpr c1)]
        cases b with
        | none =>
          have q1 : k &&& a = k ∧ ∀ f, (none : Option Nat) = some f → pc k < pc f := ⟨c1, fun f hf => by cases hf⟩
          rw [if_pos (show oI none < 0 by decide), b63, if_pos q1]
        | some g =>
          have hg2 := hg g rfl
          have p8 := pc_le g hg2
          rw [if_neg (show ¬ oI (some g) < 0 from nI_pos (by omega)), m_bits (by omega), Option.bind_some, show oI (some g) = nI g from rfl, m_bits hg2, Option.bind_some]
          by_cases c2 : pc k < pc g
          · have q1 : k &&& a = k ∧ ∀ f, some g = some f → pc k < pc f := ⟨c1, fun f hf => by rw [← Option.some.inj hf]; exact c2⟩
            rw [if_pos (nI_lt c2 (by omega)), show nI g = oI (some g) from rfl, b63, if_pos q1]
          · have p9 := pc_le k (by omega)
            rw [if_neg (nI_nlt (by omega) (by omega)), if_neg (fun z => c2 (z.2 g rfl)), ← nI_1]
            rfl
      · rw [if_neg (fun z => c1 ((sb_sub k (by omega) a ha).mp z)), if_neg (fun z => c1 z.1), ← nI_1]
        rfl
    · show f_M_taken_s29 v1 (nI a) (oI (fold (tkM (fun S => rgB U S n) a) none (a + 1))) (nI (a + 1)) h = _
      unfold f_M_taken_s29
      rw [hf, if_pos (nI_lt (by omega) (by omega)), show oI (some f) = nI f from rfl, hb]
      rfl
variable {Q : xH → Nat → Prop}
/-- taken -/
theorem p_taken (hQ : qOk Q) : lI_taken (jII Q) := by
  rintro v h ⟨R, hR, r1, r2, hj, hq⟩
  have keep : jII Q h := ⟨R, hR, r1, r2, hj, hq⟩
  obtain ⟨n, m, c, ⟨hv, ht, hst, -⟩, -⟩ := hj.2.2.2
  obtain ⟨v0, -, -, -, v3, n8, -⟩ := id hv
  have hn : mN h n := ⟨v3, n8⟩
  have cl : f_B_taken v h = (if h.1 8 0 0 = 0 then some (-1, h) else if v < 0 then some (-1, h) else if v ≤ 1 then (f_Sets_fewestForNoRings 0 h).bind (fun q6 => if v = 0 then (f_Integer_bitCount q6.1 q6.2).bind (fun r8 => some (r8, q6.2)) else some (q6.1, q6.2)) else some (-1, h)) := rfl
  have rf : ∀ h1 : xH, f_M_taken v h1 = (f_M_isTrug h1).bind (fun r1 => if r1 = 0 then some (-1) else (f_M_in v.toInt64 0 1 h1).bind (fun r4 => if r4 = 0 then some (-1) else (f_M_inside h1).bind (fun r7 => f_M_taken_l29 v r7 (-1) 0 h1))) := fun _ => rfl
  have mi : ∀ h1 : xH, f_M_in v.toInt64 0 1 h1 = some (if v < 0 ∨ 1 < v then 0 else 1) := fun h1 => m_in v 0 1 (by decide) (by decide)
  by_cases z : mS h 0 = 0
  · exact ⟨-1, h, by rw [cl, ht.1, if_pos z], by rw [rf, m_isTrug v0, Option.bind_some, if_pos z], keep⟩
  by_cases z0 : v < 0
  · exact ⟨-1, h, by rw [cl, ht.1, if_neg z, if_pos z0], by rw [rf, m_isTrug v0, Option.bind_some, if_neg z, mi, if_pos (Or.inl z0)]; rfl, keep⟩
  by_cases z1 : ¬ v ≤ 1
  · exact ⟨-1, h, by rw [cl, ht.1, if_neg z, if_neg z0, if_neg z1], by rw [rf, m_isTrug v0, Option.bind_some, if_neg z, mi, if_pos (Or.inr (Int32.not_le.mp z1))]; rfl, keep⟩
  have z1 : v ≤ 1 := Decidable.not_not.mp z1
  have e30 : ∀ k, k < n → h.2.2.2.1 30 0 k = nI (uV (mS h) k) ∧ uV (mS h) k < 256 := fun k hk => ⟨((hst.2.2.2.2 k hk).2.1).trans (uV_e hv hk).1, (uV_e hv hk).2⟩
  have hS := bs_lt8 (vIn (mS h)) n8
  have hSn : ∀ o, (bs (vIn (mS h)) n).testBit o = true → o < n := fun o ho => by
    by_cases hon : o < n
    · exact hon
    · rw [bs_hi (by omega)] at ho; cases ho
  have e62 : h.1 6 2 0 = nI (bs (vIn (mS h)) n) := hst.2.2.1
  have ein : ∀ h1 : xH, mS h1 = mS h → f_M_inside h1 = some (nI (bs (vIn (mS h)) n)) := fun h1 e => by
    rw [m_inside (n := n) ⟨by rw [e]; exact v3, n8⟩, mIn_v, e]
  generalize bs (vIn (mS h)) n = a at hS hSn e62 ein
  obtain ⟨A, eA⟩ := c_fewest (U := uV (mS h)) n8 e30 hS hSn e62
  have eS : mS (xsA h 28 0 A) = mS h := by
    show (xsA h 28 0 A).2.2.2.1 56 0 = h.2.2.2.1 56 0
    exact rdA_n (by decide)
  have hn1 : mN (xsA h 28 0 A) n := ⟨by rw [eS]; exact v3, n8⟩
  have h0 : rgB (uV (mS h)) (a &&& (255 ^^^ a)) n = 0 := by
    have e : a &&& (255 ^^^ a) = 0 := by
      apply Nat.eq_of_testBit_eq
      intro i
      rw [Nat.testBit_and, Nat.testBit_xor, Nat.zero_testBit]
      cases hai : a.testBit i with
      | false => rfl
      | true =>
        have i8 := bit_hi hS hai
        have : Nat.testBit 255 i = true := by
          have d : ∀ i, i < 8 → Nat.testBit 255 i = true := by decide
          exact d i i8
        rw [this]
        rfl
    rw [e]
    have e2 : ∀ k, bs (fun k => Nat.testBit 0 k && (rfG (uV (mS h)) 0 n k 8).testBit k) k = 0 := by
      intro k
      induction k with
      | zero => rfl
      | succ k ih =>
        show bs (fun k => Nat.testBit 0 k && (rfG (uV (mS h)) 0 n k 8).testBit k) k + (if (Nat.testBit 0 k && (rfG (uV (mS h)) 0 n k 8).testBit k) then 2 ^ k else 0) = 0
        rw [ih, Nat.zero_testBit]
        rfl
    exact e2 n
  have eM : fold (tkM (fun S => rgB (uV (mS h)) S n) a) none (a + 1) = some (fold (tkC (fun S => rgB (uV (mS h)) S n) a) a (a + 1)) := by
    rcases tk_rel (rg := fun S => rgB (uV (mS h)) S n) hS h0 (a + 1) (Nat.le_refl _) with e | ⟨-, -, e⟩
    · exact e
    · omega
  have eF : fold (tkC (fun S => rgB (uV (mS h)) S n) a) a 256 = fold (tkC (fun S => rgB (uV (mS h)) S n) a) a (a + 1) := fold_ext 256 (by omega) (fun k h1 h2 f => if_neg (fun z => by
    have := Nat.and_le_right (n := k) (m := a)
    rw [z.1] at this
    omega))
  rw [eF] at eA
  have hlt := tkC_lt (rg := fun S => rgB (uV (mS h)) S n) hS (a + 1) (by omega)
  have eR : f_M_taken v (xsA h 28 0 A) = f_M_taken_b85 v (nI (fold (tkC (fun S => rgB (uV (mS h)) S n) a) a (a + 1))) (xsA h 28 0 A) := by
    rw [rf, m_isTrug (by rw [eS]; exact v0), Option.bind_some, eS, if_neg z, mi, if_neg (fun y => y.elim z0 (Int32.not_lt.mpr z1)), Option.bind_some, if_neg (by decide), ein _ eS, Option.bind_some, m_taken29 hn1 (U := uV (mS h)) (fun k hk => by rw [eS]; exact uV_e hv hk) hS eM]
  rw [cl, ht.1, if_neg z, if_neg z0, if_pos z1, eA, Option.bind_some]
  generalize fold (tkC (fun S => rgB (uV (mS h)) S n) a) a (a + 1) = f at hlt eR
  have good := sameJ_jII hQ (sameJ_A (h := h) (f := 28) (i := 0) (A := A) (by unfold jG; omega)) keep
  by_cases y : v = 0
  · rw [if_pos y, c_bitCount hlt]
    refine ⟨nI (pc f), xsA h 28 0 A, rfl, ?_, good⟩
    rw [eR]
    unfold f_M_taken_b85
    rw [if_pos y, m_bits hlt]
    rfl
  · rw [if_neg y]
    refine ⟨nI f, xsA h 28 0 A, rfl, ?_, good⟩
    rw [eR]
    unfold f_M_taken_b85
    rw [if_neg y]
