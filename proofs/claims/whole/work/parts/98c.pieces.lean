/-! PURE: the class cuts a text into pieces -/
theorem whl_up {σ ρ : Type} {step : σ → Option (σ ⊕ ρ)} {s : σ} {X : Option ρ} (h : step s = xup X) : whl step s = X := by
  rw [whl_eq, h]
  cases X with
  | none => rfl
  | some x => rfl
def nvF (B : Nat → Nat) (p : Nat) : Nat → Nat
  | 0 => 0
  | n + 1 => nvF B p n * 10 + (B (p + n) - 48)
theorem nvF_lt {B : Nat → Nat} {p : Nat} : ∀ {n : Nat}, (∀ j, j < n → B (p + j) ≤ 57) → nvF B p n < 10 ^ n
  | 0, _ => by show 0 < 1; decide
  | n + 1, h => by
    have ih := nvF_lt (B := B) (p := p) (n := n) (fun j hj => h j (by omega))
    have := h n (by omega)
    show nvF B p n * 10 + (B (p + n) - 48) < 10 ^ (n + 1)
    rw [Nat.pow_succ]
    omega
theorem nv5 {B : Nat → Nat} {p n : Nat} (h : ∀ j, j < n → B (p + j) ≤ 57) (hn : n ≤ 5) : nvF B p n < 100000 := Nat.lt_of_lt_of_le (nvF_lt h) (show 10 ^ n ≤ 10 ^ 5 from Nat.pow_le_pow_right (by decide) hn)
theorem c_numberAt {h : xH} {t p e : Nat} {B : Nat → Nat} (hc : ctx h t B) (hp : p ≤ e) (he : e ≤ t) (hd : ∀ j, p ≤ j → j < e → 48 ≤ B j ∧ B j ≤ 57) : f_Tape_numberAt (nI p) (nI e) h = some (if e - p ≤ 5 then nI (nvF B p (e - p)) else -1) := by
  have t4 := hc.2.1
  have s0 : f_Tape_numberAt (nI p) (nI e) h = (if nI e - nI p ≤ 5 then f_Tape_numberAt_l14 (nI e) 0 (nI p) h else some (-1)) := rfl
  rw [s0, pk_sub hp]
  by_cases q : e - p ≤ 5
  · rw [if_pos (show nI (e - p) ≤ (5 : Int32) from nI_le (b := 5) q (by decide)), if_pos q]
    have := whl_cnt (step := fun s : Int32 × Int32 => f_Tape_numberAt_s14 (nI e) s.1 s.2 h) (e - p) (fun k => (nI (nvF B p k), nI (p + k))) (nI (nvF B p (e - p))) (fun k hk => ?_) ?_
    · exact this
    · show f_Tape_numberAt_s14 (nI e) (nI (nvF B p k)) (nI (p + k)) h = some (Sum.inl (nI (nvF B p k * 10 + (B (p + k) - 48)), nI (p + (k + 1))))
      have d := hd (p + k) (by omega) (by omega)
      unfold f_Tape_numberAt_s14
      rw [if_neg (nI_ge (by omega) (by omega)), c_byteAt hc (by omega), Option.bind_some, xlet_e, xlet_e, nI_1]
      unfold cdB
      rw [if_pos (show p + k < t by omega), show nI (nvF B p k) * (10 : Int32) = nI (nvF B p k * 10) from pk_mul _ 10, nI_add, show (48 : Int32) = nI 48 from rfl, pk_sub (by omega)]
      rw [show nvF B p k * 10 + B (p + k) - 48 = nvF B p k * 10 + (B (p + k) - 48) by omega, Nat.add_assoc]
    · show f_Tape_numberAt_s14 (nI e) (nI (nvF B p (e - p))) (nI (p + (e - p))) h = _
      unfold f_Tape_numberAt_s14
      rw [if_pos (nI_le (by omega) (by omega))]
  · rw [if_neg (show ¬ nI (e - p) ≤ (5 : Int32) from nI_ge (a := 5) (by omega) (by omega)), if_neg q]
def kdB (B : Nat → Nat) (t p : Nat) : Int32 := if t ≤ p then 0 else if isLB (B p) = true then 1 else if isDB (B p) = true then 2 else 3
def weqB (B : Nat → Nat) (t p : Nat) : Bool := (decide (B p = 60) || decide (B p = 62)) && (decide (p + 1 < t) && decide (B (p + 1) = 61))
def enB (B : Nat → Nat) (t p : Nat) : Nat := if t ≤ p then p + 1 else if isLB (B p) = true then rn isLB B t p else if isDB (B p) = true then rn isDB B t p else if weqB B t p = true then p + 2 else p + 1
def vlR (B : Nat → Nat) (t p : Nat) (v : Int32) : Prop := (t ≤ p → v = 0) ∧ (p < t → isLB (B p) = true → wvR B p (rn isLB B t p - p) v) ∧ (p < t → isDB (B p) = true → v = if rn isDB B t p - p ≤ 5 then nI (nvF B p (rn isDB B t p - p)) else -1) ∧ (p < t → ¬ isLB (B p) = true → ¬ isDB (B p) = true → v = nI (B p + (if weqB B t p = true then 400 else 0)))
theorem enB_gt {B : Nat → Nat} {t p : Nat} : p < enB B t p := by
  unfold enB
  split
  · omega
  · next h =>
    split
    · next h2 =>
      rw [rn_y (ltB_t.mpr ⟨by omega, h2⟩)]
      exact rn_ge (P := isLB) (B := B) (t := t) (p + 1)
    · split
      · next h3 =>
        rw [rn_y (ltB_t.mpr ⟨by omega, h3⟩)]
        exact rn_ge (P := isDB) (B := B) (t := t) (p + 1)
      · split <;> omega
theorem enB_le {B : Nat → Nat} {t p : Nat} (h : p < t) : enB B t p ≤ t := by
  unfold enB
  rw [if_neg (by omega)]
  split
  · exact rn_le p (by omega)
  · split
    · exact rn_le p (by omega)
    · split
      · next h2 =>
        unfold weqB at h2
        rw [Bool.and_eq_true, Bool.and_eq_true, decide_eq_true_iff, decide_eq_true_iff] at h2
        omega
      · omega
theorem c_weq {h : xH} {t p : Nat} {B : Nat → Nat} (hc : ctx h t B) (hp : p < t) : f_Tape_isWithEqual (nI p) h = some (if weqB B t p = true then 1 else 0) := by
  have t4 := hc.2.1
  have b8 := (hc.2.2 p hp).2
  have b20 : f_Tape_isWithEqual_b20 (nI p) h = some (if (decide (p + 1 < t) && decide (B (p + 1) = 61)) = true then 1 else 0) := by
    unfold f_Tape_isWithEqual_b20
    rw [nI_1, c_byteAt hc (by omega), Option.bind_some]
    unfold cdB
    by_cases z : p + 1 < t
    · have := (hc.2.2 (p + 1) z).2
      rw [if_pos z, decide_eq_true z, Bool.true_and]
      by_cases y : B (p + 1) = 61
      · rw [y, if_pos (show nI 61 = (61 : Int32) from rfl), if_pos (decide_eq_true rfl)]
      · rw [if_neg (show ¬ nI (B (p + 1)) = (61 : Int32) from fun u => y ((nI_eq (b := 61) (by omega) (by decide)).mp u)), if_neg (fun u => y (of_decide_eq_true u))]
    · rw [if_neg z, decide_eq_false z, Bool.false_and, if_neg (by decide), if_neg (by decide)]
  have s0 : f_Tape_isWithEqual (nI p) h = (f_Tape_byteAt (nI p) h).bind (fun r1 => if r1 = 60 then f_Tape_isWithEqual_b20 (nI p) h else (f_Tape_byteAt (nI p) h).bind (fun r7 => if r7 = 62 then f_Tape_isWithEqual_b20 (nI p) h else some 0)) := rfl
  rw [s0, c_byteAt hc (by omega), Option.bind_some, Option.bind_some, b20]
  unfold cdB weqB
  rw [if_pos hp]
  have e60 : nI (B p) = (60 : Int32) ↔ B p = 60 := nI_eq (b := 60) (by omega) (by decide)
  have e62 : nI (B p) = (62 : Int32) ↔ B p = 62 := nI_eq (b := 62) (by omega) (by decide)
  by_cases y1 : B p = 60
  · rw [if_pos (e60.mpr y1), decide_eq_true y1, Bool.true_or, Bool.true_and]
  · rw [if_neg (fun u => y1 (e60.mp u)), decide_eq_false y1, Bool.false_or]
    by_cases y2 : B p = 62
    · rw [if_pos (e62.mpr y2), decide_eq_true y2, Bool.true_and]
    · rw [if_neg (fun u => y2 (e62.mp u)), decide_eq_false y2, Bool.false_and, if_neg (by decide)]
theorem c_cut {h : xH} {t f : Nat} {B : Nat → Nat} (hc : ctx h t B) (hf : f ≤ t) : ∃ v, f_Tape_cutPiece (nI f) h = (f_Tape_addPiece (kdB B t (rn isSB B t f)) (nI (rn isSB B t f)) v h).bind (fun h2 => some (nI (enB B t (rn isSB B t f)), h2)) ∧ vlR B t (rn isSB B t f) v := by
  have t4 := hc.2.1
  have skip : ∀ p, p ≤ t → f_Tape_cutPiece_l2 (nI p) h = f_Tape_cutPiece_b25 (nI (rn isSB B t p)) h := by
    refine rn_ind (P := isSB) (B := B) (t := t) (C := fun p => p ≤ t → f_Tape_cutPiece_l2 (nI p) h = f_Tape_cutPiece_b25 (nI (rn isSB B t p)) h) (fun p hn hp => ?_) (fun p hy ih hp => ?_)
    · rw [rn_n hn]
      apply whl_up
      show f_Tape_cutPiece_s2 (nI p) h = _
      unfold f_Tape_cutPiece_s2
      by_cases z : p < t
      · have b8 := (hc.2.2 p z).2
        rw [if_neg (show ¬ (400 : Int32) ≤ nI p from nI_ge (b := 400) (by omega) (by decide)), c_byteAt hc (by omega), Option.bind_some]
        unfold cdB
        rw [if_pos z, if_neg (show ¬ nI (B p) = (32 : Int32) from fun u => hn (ltB_t.mpr ⟨z, decide_eq_true ((nI_eq (b := 32) (by omega) (by decide)).mp u)⟩))]
      · by_cases y : 400 ≤ p
        · rw [if_pos (show (400 : Int32) ≤ nI p from nI_le (a := 400) y (by omega))]
        · rw [if_neg (show ¬ (400 : Int32) ≤ nI p from nI_ge (b := 400) (by omega) (by decide)), c_byteAt hc (by omega), Option.bind_some]
          unfold cdB
          rw [if_neg z, if_neg (by decide)]
    · obtain ⟨z, zb⟩ := ltB_t.mp hy
      rw [rn_y hy, ← ih z]
      apply whl_st
      show f_Tape_cutPiece_s2 (nI p) h = _
      unfold f_Tape_cutPiece_s2
      rw [if_neg (show ¬ (400 : Int32) ≤ nI p from nI_ge (b := 400) (by omega) (by decide)), c_byteAt hc (by omega), Option.bind_some]
      unfold cdB
      rw [if_pos z, of_decide_eq_true zb, if_pos (show nI 32 = (32 : Int32) from rfl), xlet_e, nI_1]
  have e0 : f_Tape_cutPiece (nI f) h = f_Tape_cutPiece_b25 (nI (rn isSB B t f)) h := skip f hf
  obtain ⟨b, hb⟩ : ∃ b, b = rn isSB B t f := ⟨_, rfl⟩
  have bt : b ≤ t := by rw [hb]; exact rn_le f hf
  rw [e0, ← hb]
  have s0 : f_Tape_cutPiece_b25 (nI b) h = (f_Tape_byteAt (nI b) h).bind (fun r3 => if r3 = -1 then (f_Tape_addPiece 0 (nI b) 0 h).bind (fun h8 => some (nI b + 1, h8)) else (f_Tape_isLetter (nI b) h).bind (fun r9 => if r9 = 0 then (f_Tape_isDigit (nI b) h).bind (fun r12 => if r12 = 0 then (f_Tape_isWithEqual (nI b) h).bind (fun r15 => if r15 = 0 then f_Tape_cutPiece_b150 (nI b) 0 (nI b + 1) h else f_Tape_cutPiece_b150 (nI b) 1 (nI b + 1) h) else f_Tape_cutPiece_l100 (nI b) (nI b + 1) h) else f_Tape_cutPiece_l56 (nI b) (nI b + 1) h)) := rfl
  rw [c_byteAt hc (by omega), Option.bind_some, nI_1] at s0
  unfold cdB at s0
  by_cases z : b < t
  · have b8 := (hc.2.2 b z).2
    rw [if_pos z, if_neg (fun u => nI_nm1 (by omega) u), c_isLetter hc (by omega), Option.bind_some, sel_e, c_isDigit hc (by omega), Option.bind_some, sel_e, c_weq hc z, Option.bind_some, sel_e] at s0
    unfold kdB enB
    rw [if_neg (show ¬ t ≤ b by omega), if_neg (show ¬ t ≤ b by omega)]
    by_cases yl : isLB (B b) = true
    · have lb : ltB isLB B t b = true := ltB_t.mpr ⟨z, yl⟩
      have rl : rn isLB B t b = rn isLB B t (b + 1) := rn_y lb
      have run : ∀ p, p ≤ t → f_Tape_cutPiece_l56 (nI b) (nI p) h = f_Tape_cutPiece_b77 (nI b) (nI (rn isLB B t p)) h := by
        refine rn_ind (P := isLB) (B := B) (t := t) (C := fun p => p ≤ t → f_Tape_cutPiece_l56 (nI b) (nI p) h = f_Tape_cutPiece_b77 (nI b) (nI (rn isLB B t p)) h) (fun p hn hp => ?_) (fun p hy ih hp => ?_)
        · rw [rn_n hn]
          apply whl_up
          show f_Tape_cutPiece_s56 (nI b) (nI p) h = _
          unfold f_Tape_cutPiece_s56
          rw [c_isLetter hc (by omega), Option.bind_some, sel_e, if_neg hn]
          split
          · rfl
          · rfl
        · rw [rn_y hy, ← ih (ltB_t.mp hy).1]
          have := (ltB_t.mp hy).1
          apply whl_st
          show f_Tape_cutPiece_s56 (nI b) (nI p) h = _
          unfold f_Tape_cutPiece_s56
          rw [if_neg (show ¬ (400 : Int32) ≤ nI p from nI_ge (b := 400) (by omega) (by decide)), c_isLetter hc (by omega), Option.bind_some, sel_e, if_pos hy, xlet_e, nI_1]
      obtain ⟨v, ev, hv⟩ := c_wordAt (e := rn isLB B t b) hc (rn_ge b) (rn_le b bt)
      refine ⟨v, ?_, fun y => by omega, fun _ _ => hv, fun _ yd => ?_, fun _ yn => absurd yl yn⟩
      · rw [s0, if_pos lb, run (b + 1) (by omega), ← rl, if_pos yl, if_pos yl]
        unfold f_Tape_cutPiece_b77
        rw [ev, Option.bind_some]
      · have u1 := of_decide_eq_true yl
        have u2 := of_decide_eq_true yd
        omega
    · have nlb : ¬ ltB isLB B t b = true := fun u => yl (ltB_t.mp u).2
      rw [if_neg nlb] at s0
      rw [if_neg yl, if_neg yl]
      by_cases yd : isDB (B b) = true
      · have lb : ltB isDB B t b = true := ltB_t.mpr ⟨z, yd⟩
        have rl : rn isDB B t b = rn isDB B t (b + 1) := rn_y lb
        have run : ∀ p, p ≤ t → f_Tape_cutPiece_l100 (nI b) (nI p) h = f_Tape_cutPiece_b121 (nI b) (nI (rn isDB B t p)) h := by
          refine rn_ind (P := isDB) (B := B) (t := t) (C := fun p => p ≤ t → f_Tape_cutPiece_l100 (nI b) (nI p) h = f_Tape_cutPiece_b121 (nI b) (nI (rn isDB B t p)) h) (fun p hn hp => ?_) (fun p hy ih hp => ?_)
          · rw [rn_n hn]
            apply whl_up
            show f_Tape_cutPiece_s100 (nI b) (nI p) h = _
            unfold f_Tape_cutPiece_s100
            rw [c_isDigit hc (by omega), Option.bind_some, sel_e, if_neg hn]
            split
            · rfl
            · rfl
          · rw [rn_y hy, ← ih (ltB_t.mp hy).1]
            have := (ltB_t.mp hy).1
            apply whl_st
            show f_Tape_cutPiece_s100 (nI b) (nI p) h = _
            unfold f_Tape_cutPiece_s100
            rw [if_neg (show ¬ (400 : Int32) ≤ nI p from nI_ge (b := 400) (by omega) (by decide)), c_isDigit hc (by omega), Option.bind_some, sel_e, if_pos hy, xlet_e, nI_1]
        have na := c_numberAt (e := rn isDB B t b) hc (rn_ge b) (rn_le b bt) (fun j h1 h2 => of_decide_eq_true (ltB_t.mp (rn_all (P := isDB) (B := B) (t := t) b j h1 h2)).2)
        refine ⟨_, ?_, fun y => by omega, fun _ y => absurd y yl, fun _ _ => rfl, fun _ _ yn => absurd yd yn⟩
        rw [s0, if_pos lb, run (b + 1) (by omega), ← rl, if_pos yd, if_pos yd]
        unfold f_Tape_cutPiece_b121
        rw [na, Option.bind_some]
      · have ndb : ¬ ltB isDB B t b = true := fun u => yd (ltB_t.mp u).2
        rw [if_neg ndb] at s0
        rw [if_neg yd, if_neg yd]
        have b150 : ∀ w, w ≤ 1 → f_Tape_cutPiece_b150 (nI b) (nI w) (nI (b + 1)) h = (f_Tape_addPiece 3 (nI b) (nI (B b + w * 400)) h).bind (fun h2 => some (nI (b + 1 + w), h2)) := fun w hw => by
          unfold f_Tape_cutPiece_b150
          rw [xlet_e, nI_add, c_byteAt hc (by omega), Option.bind_some]
          unfold cdB
          rw [if_pos z, pk_sub (by omega), show (1 : Int32) = nI 1 from rfl, pk_sub (by omega), show b + 1 + w - b - 1 = w by omega, show nI w * (400 : Int32) = nI (w * 400) from pk_mul w 400, nI_add]
        by_cases yw : weqB B t b = true
        · refine ⟨nI (B b + 400), ?_, fun y => by omega, fun _ y => absurd y yl, fun _ y => absurd y yd, fun _ _ _ => by rw [if_pos yw]⟩
          rw [s0, if_pos yw, if_pos yw]
          exact b150 1 (by decide)
        · refine ⟨nI (B b), ?_, fun y => by omega, fun _ y => absurd y yl, fun _ y => absurd y yd, fun _ _ _ => by rw [if_neg yw]; rfl⟩
          rw [s0, if_neg yw, if_neg yw]
          exact b150 0 (by decide)
  · rw [if_neg z, if_pos rfl] at s0
    refine ⟨0, ?_, fun _ => rfl, fun y => absurd y z, fun y => absurd y z, fun y => absurd y z⟩
    unfold kdB enB
    rw [s0, if_pos (show t ≤ b by omega), if_pos (show t ≤ b by omega)]
