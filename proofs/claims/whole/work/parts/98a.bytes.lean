/-! PURE: texts; bytes and runs of them -/
def bN (x : Int32) : Nat := x.toBitVec.toNat % 256
theorem bN_lt {x : Int32} : bN x < 256 := Nat.mod_lt _ (by decide)
theorem bN_and (x : Int32) : x &&& 255 = nI (bN x) := pk_and x (m := 255) 8 (by decide)
def sB (x : Int32) : Prop := x.toInt8.toInt32 = x
theorem sB_int {x : Int32} (h : sB x) : x.toInt = if bN x < 128 then (bN x : Int) else (bN x : Int) - 256 := by
  have h1 : x.toInt = x.toInt.bmod (2 ^ 8) := by
    have : (x.toInt8.toInt32).toInt = x.toInt.bmod (2 ^ 8) := by rw [Int8.toInt_toInt32, Int32.toInt_toInt8]
    rw [h] at this
    exact this
  have h2 := Int.le_bmod (x := x.toInt) (m := 2 ^ 8) (by decide)
  have h3 := Int.bmod_lt (x := x.toInt) (m := 2 ^ 8) (by decide)
  have h4 : x.toInt = if 2 * x.toBitVec.toNat < 2 ^ 32 then (x.toBitVec.toNat : Int) else (x.toBitVec.toNat : Int) - (2 ^ 32 : Nat) := BitVec.toInt_eq_toNat_cond x.toBitVec
  unfold bN
  rw [← h1] at h2 h3
  split at h4
  · split <;> omega
  · split <;> omega
theorem sB_eq {x : Int32} (h : sB x) {c : Nat} (hc : c < 128) : x = nI c ↔ bN x = c := by
  rw [← Int32.toInt_inj, nI_toInt (by omega), sB_int h]
  have := bN_lt (x := x)
  split <;> omega
theorem sB_lt {x : Int32} (h : sB x) {c : Nat} (hc : c < 128) : x < nI c ↔ bN x < c ∨ 128 ≤ bN x := by
  rw [Int32.lt_iff_toInt_lt, nI_toInt (by omega), sB_int h]
  have := bN_lt (x := x)
  split <;> omega
theorem sB_gt {x : Int32} (h : sB x) {c : Nat} (hc : c < 128) : nI c < x ↔ c < bN x ∧ bN x < 128 := by
  rw [Int32.lt_iff_toInt_lt, nI_toInt (by omega), sB_int h]
  have := bN_lt (x := x)
  split <;> omega
/-- the text of the reference, of the class -/
def mtx (h : xH) (t : Nat) (B : Nat → Nat) : Prop := h.1 12 1 0 = nI t ∧ t ≤ 400 ∧ ∀ j, j < t → sB (h.2.2.2.1 47 0 j) ∧ bN (h.2.2.2.1 47 0 j) = B j
def ctx (h : xH) (t : Nat) (B : Nat → Nat) : Prop := h.1 7 6 0 = nI t ∧ t ≤ 400 ∧ ∀ j, j < t → bN (h.2.2.2.1 33 0 j) = B j ∧ B j < 256
theorem ctx_of {h h' : xH} {t : Nat} {B : Nat → Nat} (e1 : h'.1 7 6 0 = h.1 7 6 0) (e2 : h'.2.2.2.1 33 0 = h.2.2.2.1 33 0) (hc : ctx h t B) : ctx h' t B := ⟨e1.trans hc.1, hc.2.1, by rw [e2]; exact hc.2.2⟩
theorem mtx_of {h h' : xH} {t : Nat} {B : Nat → Nat} (e1 : h'.1 12 1 0 = h.1 12 1 0) (e2 : h'.2.2.2.1 47 0 = h.2.2.2.1 47 0) (hc : mtx h t B) : mtx h' t B := ⟨e1.trans hc.1, hc.2.1, by rw [e2]; exact hc.2.2⟩
def isLB (b : Nat) : Bool := decide (97 ≤ b ∧ b ≤ 122)
def isDB (b : Nat) : Bool := decide (48 ≤ b ∧ b ≤ 57)
def isSB (b : Nat) : Bool := decide (b = 32)
def ltB (P : Nat → Bool) (B : Nat → Nat) (t p : Nat) : Bool := decide (p < t) && P (B p)
theorem ltB_t {P : Nat → Bool} {B : Nat → Nat} {t p : Nat} : ltB P B t p = true ↔ p < t ∧ P (B p) = true := by
  unfold ltB
  rw [Bool.and_eq_true, decide_eq_true_iff]
def rnF (P : Nat → Bool) (B : Nat → Nat) (t : Nat) : Nat → Nat → Nat
  | 0, p => p
  | f + 1, p => if ltB P B t p = true then rnF P B t f (p + 1) else p
/-- the end of a run from p -/
def rn (P : Nat → Bool) (B : Nat → Nat) (t p : Nat) : Nat := rnF P B t (t - p) p
theorem rn_y {P : Nat → Bool} {B : Nat → Nat} {t p : Nat} (h : ltB P B t p = true) : rn P B t p = rn P B t (p + 1) := by
  have pt := (ltB_t.mp h).1
  unfold rn
  rw [show t - p = (t - (p + 1)) + 1 by omega]
  exact if_pos h
theorem rn_n {P : Nat → Bool} {B : Nat → Nat} {t p : Nat} (h : ¬ ltB P B t p = true) : rn P B t p = p := by
  unfold rn
  cases t - p with
  | zero => rfl
  | succ f => exact if_neg h
theorem rn_ind {P : Nat → Bool} {B : Nat → Nat} {t : Nat} {C : Nat → Prop} (h0 : ∀ p, ¬ ltB P B t p = true → C p) (h1 : ∀ p, ltB P B t p = true → C (p + 1) → C p) : ∀ p, C p := by
  have key : ∀ d p, t - p = d → C p := by
    intro d
    induction d with
    | zero =>
      intro p hp
      exact h0 p (fun z => by have := (ltB_t.mp z).1; omega)
    | succ d ih =>
      intro p hp
      by_cases q : ltB P B t p = true
      · exact h1 p q (ih (p + 1) (by omega))
      · exact h0 p q
  exact fun p => key (t - p) p rfl
theorem rn_ge {P : Nat → Bool} {B : Nat → Nat} {t : Nat} : ∀ p, p ≤ rn P B t p :=
  rn_ind (P := P) (B := B) (t := t) (C := fun p => p ≤ rn P B t p) (fun p h => by rw [rn_n h]; exact Nat.le_refl _) (fun p h ih => by rw [rn_y h]; omega)
theorem rn_le {P : Nat → Bool} {B : Nat → Nat} {t : Nat} : ∀ p, p ≤ t → rn P B t p ≤ t :=
  rn_ind (P := P) (B := B) (t := t) (C := fun p => p ≤ t → rn P B t p ≤ t) (fun p h => by rw [rn_n h]; exact id) (fun p h ih _ => by rw [rn_y h]; exact ih (ltB_t.mp h).1)
theorem rn_all {P : Nat → Bool} {B : Nat → Nat} {t : Nat} : ∀ p j, p ≤ j → j < rn P B t p → ltB P B t j = true :=
  rn_ind (P := P) (B := B) (t := t) (C := fun p => ∀ j, p ≤ j → j < rn P B t p → ltB P B t j = true) (fun p h j h1 h2 => by rw [rn_n h] at h2; omega) (fun p h ih j h1 h2 => by
    by_cases z : j = p
    · rw [z]; exact h
    · rw [rn_y h] at h2
      exact ih j (by omega) h2)
theorem rn_end {P : Nat → Bool} {B : Nat → Nat} {t : Nat} : ∀ p, ¬ ltB P B t (rn P B t p) = true :=
  rn_ind (P := P) (B := B) (t := t) (C := fun p => ¬ ltB P B t (rn P B t p) = true) (fun p h => by rw [rn_n h]; exact h) (fun p h ih => by rw [rn_y h]; exact ih)
theorem rn_id {P : Nat → Bool} {B : Nat → Nat} {t p : Nat} : rn P B t (rn P B t p) = rn P B t p := rn_n (rn_end p)
theorem whl_rn {σ ρ : Type} {step : σ → Option (σ ⊕ ρ)} {P : Nat → Bool} {B : Nat → Nat} {t : Nat} (s : Nat → σ) (x : Nat → ρ) (hs : ∀ p, ltB P B t p = true → step (s p) = some (Sum.inl (s (p + 1)))) (he : ∀ p, p ≤ t → ¬ ltB P B t p = true → step (s p) = some (Sum.inr (x p))) : ∀ p, p ≤ t → whl step (s p) = some (x (rn P B t p)) :=
  rn_ind (P := P) (B := B) (t := t) (C := fun p => p ≤ t → whl step (s p) = some (x (rn P B t p))) (fun p h hp => by rw [rn_n h]; exact whl_en (he p hp h)) (fun p h ih _ => by rw [rn_y h, whl_st (hs p h)]; exact ih (ltB_t.mp h).1)
def cdB (B : Nat → Nat) (t p : Nat) : Int32 := if p < t then nI (B p) else -1
theorem c_byteAt {h : xH} {t p : Nat} {B : Nat → Nat} (hc : ctx h t B) (hp : p < 2 ^ 31) : f_Tape_byteAt (nI p) h = some (cdB B t p) := by
  obtain ⟨e, t4, hb⟩ := hc
  have s0 : f_Tape_byteAt (nI p) h = (if nI p < 0 then some (-1) else if h.1 7 6 0 ≤ nI p then some (-1) else if (400 : Int32) ≤ nI p then some (-1) else if xib (nI p) 400 then some (h.2.2.2.1 33 0 (nI p).toNatClampNeg &&& 255) else none) := rfl
  unfold cdB
  rw [s0, if_neg (nI_pos hp), e]
  by_cases q : p < t
  · rw [if_neg (nI_ge q (by omega)), if_neg (show ¬ (400 : Int32) ≤ nI p from nI_ge (b := 400) (by omega) (by decide)), if_pos (xibN (by omega) (by decide)), nI_clamp hp, bN_and, (hb p q).1, if_pos q]
  · rw [if_pos (nI_le (by omega) hp), if_neg q]
theorem c_cls {h : xH} {t p : Nat} {B : Nat → Nat} (hc : ctx h t B) (hp : p < 2 ^ 31) {lo hi : Nat} (h1 : lo < 256) (h2 : hi < 256) : ((f_Tape_byteAt (nI p) h).bind (fun r1 => if r1 < nI lo then some 0 else (f_Tape_byteAt (nI p) h).bind (fun r4 => if nI hi < r4 then some 0 else some (1 : Int32)))) = some (if ltB (fun b => decide (lo ≤ b ∧ b ≤ hi)) B t p = true then 1 else 0) := by
  rw [c_byteAt hc hp, Option.bind_some, Option.bind_some]
  unfold cdB
  by_cases q : p < t
  · have b8 := (hc.2.2 p q).2
    rw [if_pos q]
    by_cases z1 : lo ≤ B p
    · by_cases z2 : B p ≤ hi
      · rw [if_neg (nI_nlt z1 (by omega)), if_neg (nI_nlt z2 (by omega)), if_pos (ltB_t.mpr ⟨q, decide_eq_true ⟨z1, z2⟩⟩)]
      · rw [if_neg (nI_nlt z1 (by omega)), if_pos (nI_lt (by omega) (by omega)), if_neg (fun y => z2 (of_decide_eq_true (ltB_t.mp y).2).2)]
    · rw [if_pos (nI_lt (by omega) (by omega)), if_neg (fun y => z1 (of_decide_eq_true (ltB_t.mp y).2).1)]
  · have neg : (-1 : Int32) < nI lo := by
      rw [Int32.lt_iff_toInt_lt]
      rw [nI_toInt (by omega)]
      show (-1 : Int) < _
      omega
    rw [if_neg q, if_pos neg, if_neg (fun y => q (ltB_t.mp y).1)]
theorem c_isLetter {h : xH} {t p : Nat} {B : Nat → Nat} (hc : ctx h t B) (hp : p < 2 ^ 31) : f_Tape_isLetter (nI p) h = some (if ltB isLB B t p = true then 1 else 0) := c_cls (lo := 97) (hi := 122) hc hp (by decide) (by decide)
theorem c_isDigit {h : xH} {t p : Nat} {B : Nat → Nat} (hc : ctx h t B) (hp : p < 2 ^ 31) : f_Tape_isDigit (nI p) h = some (if ltB isDB B t p = true then 1 else 0) := c_cls (lo := 48) (hi := 57) hc hp (by decide) (by decide)
theorem m_cls {h : xH} {t p : Nat} {B : Nat → Nat} (hc : mtx h t B) (hp : p < 2 ^ 31) {lo hi : Nat} (h1 : lo < 128) (h2 : hi < 128) : (if h.1 12 1 0 ≤ nI p then some 0 else if xib (nI p) 400 then (if h.2.2.2.1 47 0 (nI p).toNatClampNeg < nI lo then some 0 else if xib (nI p) 400 then (if nI hi < h.2.2.2.1 47 0 (nI p).toNatClampNeg then some 0 else some (1 : Int32)) else none) else none) = some (if ltB (fun b => decide (lo ≤ b ∧ b ≤ hi)) B t p = true then 1 else 0) := by
  obtain ⟨e, t4, hb⟩ := hc
  rw [e]
  by_cases q : p < t
  · obtain ⟨s1, s2⟩ := hb p q
    have ep : h.2.2.2.1 47 0 (nI p).toNatClampNeg = h.2.2.2.1 47 0 p := by rw [nI_clamp hp]
    rw [if_neg (nI_ge q (by omega)), if_pos (xibN (by omega) (by decide)), ep, if_pos (xibN (by omega) (by decide))]
    by_cases z1 : h.2.2.2.1 47 0 p < nI lo
    · have := (sB_lt s1 h1).mp z1
      rw [if_pos z1, if_neg (fun y => by have := of_decide_eq_true (ltB_t.mp y).2; rw [s2] at *; omega)]
    · have w1 : ¬ (bN (h.2.2.2.1 47 0 p) < lo ∨ 128 ≤ bN (h.2.2.2.1 47 0 p)) := fun y => z1 ((sB_lt s1 h1).mpr y)
      rw [if_neg z1]
      by_cases z2 : nI hi < h.2.2.2.1 47 0 p
      · have := (sB_gt s1 h2).mp z2
        rw [if_pos z2, if_neg (fun y => by have := of_decide_eq_true (ltB_t.mp y).2; rw [s2] at *; omega)]
      · have w2 : ¬ (hi < bN (h.2.2.2.1 47 0 p) ∧ bN (h.2.2.2.1 47 0 p) < 128) := fun y => z2 ((sB_gt s1 h2).mpr y)
        rw [if_neg z2, if_pos (ltB_t.mpr ⟨q, decide_eq_true (by rw [s2] at w1 w2; omega)⟩)]
  · rw [if_pos (nI_le (by omega) hp), if_neg (fun y => q (ltB_t.mp y).1)]
theorem m_isLetter {h : xH} {t p : Nat} {B : Nat → Nat} (hc : mtx h t B) (hp : p < 2 ^ 31) : f_M_isLetter (nI p) h = some (if ltB isLB B t p = true then 1 else 0) := m_cls (lo := 97) (hi := 122) hc hp (by decide) (by decide)
theorem m_isDigit {h : xH} {t p : Nat} {B : Nat → Nat} (hc : mtx h t B) (hp : p < 2 ^ 31) : f_M_isDigit (nI p) h = some (if ltB isDB B t p = true then 1 else 0) := m_cls (lo := 48) (hi := 57) hc hp (by decide) (by decide)
/-- the reference stands at q -/
def mat (h : xH) (t : Nat) (B : Nat → Nat) (q : Nat) : Prop := mtx h t B ∧ h.1 12 8 0 = nI q ∧ q ≤ t
theorem mat_s {h : xH} {t q p : Nat} {B : Nat → Nat} (hm : mat h t B q) (hp : p ≤ t) : mat (xsI h 12 8 0 (nI p)) t B p := ⟨mtx_of (rdI (by decide)) rfl hm.1, rdI_s, hp⟩
theorem m_see {h : xH} {t q : Nat} {B : Nat → Nat} (hm : mat h t B q) : f_M_see h = some (cdB B t (rn isSB B t q), xsI h 12 8 0 (nI (rn isSB B t q))) := by
  have key := whl_rn (step := fun s => f_M_see_s0 s) (P := isSB) (B := B) (t := t) (fun p => xsI h 12 8 0 (nI p)) (fun p => (cdB B t p, xsI h 12 8 0 (nI p))) ?_ ?_ q hm.2.2
  · have e : xsI h 12 8 0 (nI q) = h := by rw [← hm.2.1]; exact xsI_id
    rw [e] at key
    exact key
  · intro p hp
    obtain ⟨pt, pb⟩ := ltB_t.mp hp
    have m1 := mat_s hm (show p ≤ t by omega)
    obtain ⟨⟨x1, x2, x3⟩, x4, -⟩ := m1
    obtain ⟨y1, y2⟩ := x3 p pt
    have e47 : (xsI h 12 8 0 (nI p)).2.2.2.1 47 0 (nI p).toNatClampNeg = 32 := by
      rw [nI_clamp (by omega)]
      exact (sB_eq y1 (c := 32) (by decide)).mpr (by rw [y2]; exact of_decide_eq_true pb)
    show f_M_see_s0 (xsI h 12 8 0 (nI p)) = some (Sum.inl (xsI h 12 8 0 (nI (p + 1))))
    unfold f_M_see_s0
    rw [x1, x4, if_neg (nI_ge pt (by omega)), if_pos (xibN (by omega) (by decide)), if_pos e47, nI_1, xlet_e, xsI_2]
  · intro p hp hn
    have m1 := mat_s hm hp
    obtain ⟨⟨x1, x2, x3⟩, x4, -⟩ := m1
    have b38 : f_M_see_b38 (xsI h 12 8 0 (nI p)) = some (cdB B t p, xsI h 12 8 0 (nI p)) := by
      unfold f_M_see_b38 cdB
      rw [x1, x4]
      by_cases z : p < t
      · obtain ⟨y1, y2⟩ := x3 p z
        rw [if_neg (nI_ge z (by omega)), if_pos (xibN (by omega) (by decide)), nI_clamp (by omega), bN_and, y2, if_pos z]
      · rw [if_pos (nI_le (by omega) (by omega)), if_neg z]
    show f_M_see_s0 (xsI h 12 8 0 (nI p)) = some (Sum.inr (cdB B t p, xsI h 12 8 0 (nI p)))
    unfold f_M_see_s0
    rw [x1, x4, b38]
    by_cases z : p < t
    · obtain ⟨y1, y2⟩ := x3 p z
      have e47 : ¬ (xsI h 12 8 0 (nI p)).2.2.2.1 47 0 (nI p).toNatClampNeg = 32 := by
        rw [nI_clamp (by omega)]
        exact fun y => hn (ltB_t.mpr ⟨z, decide_eq_true (by rw [← y2]; exact (sB_eq y1 (c := 32) (by decide)).mp y)⟩)
      rw [if_neg (nI_ge z (by omega)), if_pos (xibN (by omega) (by decide)), if_neg e47]
      rfl
    · rw [if_pos (nI_le (by omega) (by omega))]
      rfl
theorem m_passWord {h : xH} {t q : Nat} {B : Nat → Nat} (hm : mat h t B q) : f_M_passWord h = some (xsI h 12 8 0 (nI (rn isLB B t q))) := by
  have key := whl_rn (step := fun s => f_M_passWord_s0 s) (P := isLB) (B := B) (t := t) (fun p => xsI h 12 8 0 (nI p)) (fun p => xsI h 12 8 0 (nI p)) ?_ ?_ q hm.2.2
  · have e : xsI h 12 8 0 (nI q) = h := by rw [← hm.2.1]; exact xsI_id
    rw [e] at key
    exact key
  · intro p hp
    obtain ⟨pt, -⟩ := ltB_t.mp hp
    have m1 := mat_s hm (show p ≤ t by omega)
    have t4 := hm.1.2.1
    show f_M_passWord_s0 (xsI h 12 8 0 (nI p)) = some (Sum.inl (xsI h 12 8 0 (nI (p + 1))))
    unfold f_M_passWord_s0
    rw [m1.2.1, m_isLetter m1.1 (by omega), Option.bind_some, sel_e, if_pos hp, nI_1, xlet_e, xsI_2]
  · intro p hp hn
    have m1 := mat_s hm hp
    have t4 := hm.1.2.1
    show f_M_passWord_s0 (xsI h 12 8 0 (nI p)) = some (Sum.inr (xsI h 12 8 0 (nI p)))
    unfold f_M_passWord_s0
    rw [m1.2.1, m_isLetter m1.1 (by omega), Option.bind_some, sel_e, if_neg hn]
