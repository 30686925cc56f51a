/-! PURE: pole -/
/-- the fewest so far who are strong enough -/
def poM (st : Nat → Int32) (load : Int32) (k : Nat) (b : Option Nat) : Option Nat := if ¬ st k < load ∧ (∀ f, b = some f → pc k < pc f) then some k else b
theorem poM_lt {st : Nat → Int32} {load : Int32} : ∀ k, k ≤ 256 → ∀ g, fold (poM st load) none k = some g → g < 256
  | 0, _, g, hg => by cases hg
  | k + 1, hk, g, hg => by
    have ih := poM_lt (st := st) (load := load) k (by omega)
    have hg' : poM st load k (fold (poM st load) none k) = some g := hg
    unfold poM at hg'
    split at hg'
    · cases hg'; omega
    · exact ih g hg'
theorem nI_nm1 {g : Nat} (hg : g < 2 ^ 31) : ¬ nI g = -1 := fun z => nI_pos hg (by rw [z]; decide)
theorem c_pole56 {h : xH} {S : Nat} {b : Option Nat} {st load : Int32} (hS : S < 256) (hb : ∀ g, b = some g → g < 256) : f_Bearing_fewestFor_b56 0 load (oI b) (nI S) st h = some (Sum.inl (oI (if ¬ st < load ∧ (∀ f, b = some f → pc S < pc f) then some S else b), nI (S + 1))) := by
  have b78 : ∀ t0 : Int32, f_Bearing_fewestFor_b78 0 load (oI b) (nI S) st t0 h = some (Sum.inl (oI (if ¬ st < load ∧ ¬ t0 = 0 then some S else b), nI (S + 1))) := by
    intro t0
    unfold f_Bearing_fewestFor_b78
    by_cases c1 : st < load
    · rw [if_pos c1, if_neg (fun z => z.1 c1), ← nI_1]
      rfl
    · rw [if_neg c1, ← nI_1]
      by_cases c2 : t0 = 0
      · rw [if_pos c2, if_neg (fun z => z.2 c2)]
        rfl
      · have q : ¬ st < load ∧ ¬ t0 = 0 := ⟨c1, c2⟩
        rw [if_neg c2, if_pos q]
        rfl
  unfold f_Bearing_fewestFor_b56 f_Bearing_fewestFor_b73
  rw [b78, b78]
  cases b with
  | none =>
    rw [if_pos (show oI none = -1 from rfl)]
    by_cases c1 : st < load
    · rw [if_neg (fun z => z.1 c1), if_neg (fun z => z.1 c1)]
    · have q1 : ¬ st < load ∧ ¬ (1 : Int32) = 0 := ⟨c1, by decide⟩
      have q2 : ¬ st < load ∧ ∀ f, (none : Option Nat) = some f → pc S < pc f := ⟨c1, fun f hf => by cases hf⟩
      rw [if_pos q1, if_pos q2]
  | some g =>
    have hg := hb g rfl
    have p1 := pc_le S hS
    have p2 := pc_le g hg
    rw [if_neg (show ¬ oI (some g) = -1 from nI_nm1 (by omega)), c_bitCount hS, Option.bind_some, show oI (some g) = nI g from rfl, c_bitCount hg, Option.bind_some]
    by_cases c2 : pc S < pc g
    · rw [if_neg (nI_ge c2 (by omega))]
      by_cases c1 : st < load
      · rw [if_neg (fun z => z.1 c1), if_neg (fun z => z.1 c1)]
      · have q1 : ¬ st < load ∧ ¬ (1 : Int32) = 0 := ⟨c1, by decide⟩
        have q2 : ¬ st < load ∧ ∀ f, some g = some f → pc S < pc f := ⟨c1, fun f hf => by rw [← Option.some.inj hf]; exact c2⟩
        rw [if_pos q1, if_pos q2]
    · rw [if_pos (nI_le (by omega) (by omega)), if_neg (fun z => z.2 rfl), if_neg (fun z => c2 (z.2 g rfl))]
theorem c_pole22 {h : xH} {m S : Nat} {f : Nat → Int32} {load v3 : Int32} {x : (Int32 × Int32) ⊕ Int32} (m4 : m ≤ 4) (hf : ∀ k, k < m → h.2.2.2.1 41 0 k = f k) (hS : S < 2 ^ m) (hx : f_Bearing_fewestFor_b56 0 load v3 (nI S) (isum f (fun c => S.testBit c) m) h = some x) : f_Bearing_fewestFor_l22 0 load v3 (nI S) 0 0 h = some x := by
  have S8 : S < 256 := Nat.lt_of_lt_of_le hS (show 2 ^ m ≤ 2 ^ 8 from Nat.pow_le_pow_right (by decide) (by omega))
  have hi : ∀ k, m ≤ k → S.testBit k = false := fun k hk => Nat.testBit_lt_two_pow (Nat.lt_of_lt_of_le hS (Nat.pow_le_pow_right (by decide) hk))
  have e4 : isum f (fun c => S.testBit c) 4 = isum f (fun c => S.testBit c) m := isum_ext 4 m4 (fun k h1 _ => hi k h1)
  refine whl_cnt (step := fun s => f_Bearing_fewestFor_s22 0 load v3 (nI S) s.1 s.2 h) 4 (fun k => (isum f (fun c => S.testBit c) k, nI k)) x (fun k hk => ?_) ?_
  · show f_Bearing_fewestFor_s22 0 load v3 (nI S) (isum f (fun c => S.testBit c) k) (nI k) h = some (Sum.inl (isum f (fun c => S.testBit c) k + (if S.testBit k then f k else 0), nI (k + 1)))
    unfold f_Bearing_fewestFor_s22
    rw [if_neg (show ¬ (4 : Int32) ≤ nI k from nI_ge (b := 4) hk (by decide)), ← nI_1]
    cases hb : S.testBit k with
    | false =>
      rw [if_pos ((c_bit0 S8 (by omega)).mpr hb)]
      show some (Sum.inl (_, _)) = some (Sum.inl (_ + 0, _))
      rw [Int32.add_zero]
    | true =>
      have hkm : k < m := by
        by_cases hk2 : k < m
        · exact hk2
        · rw [hi k (by omega)] at hb; cases hb
      rw [if_neg (by rw [c_bit0 S8 (by omega), hb]; decide), if_pos (xibN hk (by decide)), nI_clamp (by omega), hf k hkm]
      rfl
  · show f_Bearing_fewestFor_s22 0 load v3 (nI S) (isum f (fun c => S.testBit c) 4) (nI 4) h = _
    unfold f_Bearing_fewestFor_s22
    rw [if_pos (show (4 : Int32) ≤ nI 4 by decide), e4, hx]
    rfl
theorem pow_le16 {m : Nat} (m4 : m ≤ 4) : 2 ^ m ≤ 16 := show 2 ^ m ≤ 2 ^ 4 from Nat.pow_le_pow_right (by decide) m4
theorem c_fewestFor {h : xH} {m : Nat} {f : Nat → Int32} (m4 : m ≤ 4) (e84 : h.1 8 4 0 = nI m) (hf : ∀ k, k < m → h.2.2.2.1 41 0 k = f k) (load : Int32) : f_Bearing_fewestFor load 0 h = some (oI (fold (poM (fun S => isum f (fun c => S.testBit c) m) load) none (2 ^ m))) := by
  have p16 := pow_le16 m4
  refine whl_cnt (step := fun s => f_Bearing_fewestFor_s5 0 load s.1 s.2 h) (2 ^ m) (fun k => (oI (fold (poM (fun S => isum f (fun c => S.testBit c) m) load) none k), nI k)) _ (fun k hk => ?_) ?_
  · show f_Bearing_fewestFor_s5 0 load (oI (fold (poM (fun S => isum f (fun c => S.testBit c) m) load) none k)) (nI k) h = some (Sum.inl (oI (poM (fun S => isum f (fun c => S.testBit c) m) load k (fold (poM (fun S => isum f (fun c => S.testBit c) m) load) none k)), nI (k + 1)))
    unfold f_Bearing_fewestFor_s5
    rw [e84, sb_pow m (by omega), if_neg (nI_ge hk (by omega))]
    exact c_pole22 m4 hf hk (c_pole56 (by omega) (poM_lt k (by omega)))
  · show f_Bearing_fewestFor_s5 0 load _ (nI (2 ^ m)) h = _
    unfold f_Bearing_fewestFor_s5
    rw [e84, sb_pow m (by omega), if_pos (Int32.le_refl _)]
theorem m_pole86 {h : xH} {S : Nat} {b : Option Nat} {st load v1 : Int32} (hS : S < 256) (hb : ∀ g, b = some g → g < 256) (hl : f_M_loadNow h = some load) : f_M_pole_b86 v1 (oI b) (nI S) st h = some (Sum.inl (oI (if ¬ st < load ∧ (∀ f, b = some f → pc S < pc f) then some S else b), nI (S + 1))) := by
  unfold f_M_pole_b86
  rw [hl, Option.bind_some]
  by_cases c1 : st < load
  · rw [if_pos c1, if_neg (fun z => z.1 c1), ← nI_1]
    rfl
  rw [if_neg c1]
  cases b with
  | none =>
    have q2 : ¬ st < load ∧ ∀ f, (none : Option Nat) = some f → pc S < pc f := ⟨c1, fun f hf => by cases hf⟩
    rw [if_pos (show oI none < 0 by decide), if_pos q2, ← nI_1]
    rfl
  | some g =>
    have hg := hb g rfl
    have p1 := pc_le S hS
    have p2 := pc_le g hg
    rw [if_neg (show ¬ oI (some g) < 0 from nI_pos (by omega)), m_bits hS, Option.bind_some, show oI (some g) = nI g from rfl, m_bits hg, Option.bind_some, ← nI_1]
    by_cases c2 : pc S < pc g
    · have q2 : ¬ st < load ∧ ∀ f, some g = some f → pc S < pc f := ⟨c1, fun f hf => by rw [← Option.some.inj hf]; exact c2⟩
      rw [if_neg (nI_ge c2 (by omega)), if_pos q2]
      rfl
    · rw [if_pos (nI_le (by omega) (by omega)), if_neg (fun z => c2 (z.2 g rfl))]
      rfl
theorem m_pole41 {h : xH} {m S : Nat} {v1 v2 : Int32} {x : (Int32 × Int32) ⊕ Int32} (m4 : m ≤ 4) (e4 : mS h 4 = nI m) (hS : S < 256) (hx : f_M_pole_b86 v1 v2 (nI S) (isum (fun c => mS h (60 + c)) (fun c => S.testBit c) m) h = some x) : f_M_pole_l41 v1 v2 (nI S) 0 0 h = some x := by
  have e4' : h.2.2.2.1 56 0 ((4 : Int32)).toNatClampNeg = nI m := e4
  refine whl_cnt (step := fun s => f_M_pole_s41 v1 v2 (nI S) s.1 s.2 h) m (fun k => (isum (fun c => mS h (60 + c)) (fun c => S.testBit c) k, nI k)) x (fun k hk => ?_) ?_
  · show f_M_pole_s41 v1 v2 (nI S) (isum (fun c => mS h (60 + c)) (fun c => S.testBit c) k) (nI k) h = some (Sum.inl (isum (fun c => mS h (60 + c)) (fun c => S.testBit c) k + (if S.testBit k then mS h (60 + k) else 0), nI (k + 1)))
    unfold f_M_pole_s41
    rw [e4', if_neg (nI_ge hk (by omega)), m_isOf hS (by omega), Option.bind_some, ← nI_1]
    cases hb : S.testBit k with
    | false => rfl
    | true =>
      rw [if_neg (by decide), if_pos (xibA (c := 60) (a := 60) rfl (by omega) (by decide)), ixA (c := 60) (a := 60) rfl (by omega)]
      rfl
  · show f_M_pole_s41 v1 v2 (nI S) _ (nI m) h = _
    unfold f_M_pole_s41
    rw [e4', if_pos (Int32.le_refl _), hx]
    rfl
theorem m_pole23 {h : xH} {m : Nat} {v1 load r : Int32} (m4 : m ≤ 4) (e4 : mS h 4 = nI m) (hl : f_M_loadNow h = some load) (hr : f_M_pole_b118 v1 (oI (fold (poM (fun S => isum (fun c => mS h (60 + c)) (fun c => S.testBit c) m) load) none (2 ^ m))) h = some r) : f_M_pole_l23 v1 (-1) 0 h = some r := by
  have p16 := pow_le16 m4
  have e4' : h.2.2.2.1 56 0 ((4 : Int32)).toNatClampNeg = nI m := e4
  refine whl_cnt (step := fun s => f_M_pole_s23 v1 s.1 s.2 h) (2 ^ m) (fun k => (oI (fold (poM (fun S => isum (fun c => mS h (60 + c)) (fun c => S.testBit c) m) load) none k), nI k)) r (fun k hk => ?_) ?_
  · show f_M_pole_s23 v1 (oI (fold (poM (fun S => isum (fun c => mS h (60 + c)) (fun c => S.testBit c) m) load) none k)) (nI k) h = some (Sum.inl (oI (poM (fun S => isum (fun c => mS h (60 + c)) (fun c => S.testBit c) m) load k (fold (poM (fun S => isum (fun c => mS h (60 + c)) (fun c => S.testBit c) m) load) none k)), nI (k + 1)))
    unfold f_M_pole_s23
    rw [e4', sb_pow m (by omega), if_neg (nI_ge hk (by omega))]
    exact m_pole41 m4 e4 (by omega) (m_pole86 (by omega) (poM_lt k (by omega)) hl)
  · show f_M_pole_s23 v1 _ (nI (2 ^ m)) h = _
    unfold f_M_pole_s23
    rw [e4', sb_pow m (by omega), if_pos (Int32.le_refl _), hr]
    rfl
variable {Q : xH → Nat → Prop}
/-- pole -/
theorem p_pole : lI_pole (jII Q) := by
  rintro v h ⟨R, hR, r1, r2, hj, hq⟩
  obtain ⟨n, m, c, ⟨hv, ht, hst, -⟩, -⟩ := hj.2.2.2
  obtain ⟨v0, -, -, -, v3, n8, v4, m4, -⟩ := id hv
  have hn : mN h n := ⟨v3, n8⟩
  have cl : f_B_pole v h = (if h.1 8 0 0 = 0 then some (-1) else if v < 0 then some (-1) else if v ≤ 1 then (f_State_load 0 (h.1 8 2 0) h).bind (fun r4 => (f_Bearing_fewestFor r4 0 h).bind (fun r6 => if r6 = -1 then some (-2) else if v = 0 then (f_Integer_bitCount r6 h).bind (fun r10 => some r10) else some r6)) else some (-1)) := rfl
  have rf : f_M_pole v h = (f_M_isTrug h).bind (fun r1 => if r1 = 0 then some (-1) else (f_M_in v.toInt64 0 1 h).bind (fun r4 => if r4 = 0 then some (-1) else f_M_pole_l23 v (-1) 0 h)) := rfl
  have mi : f_M_in v.toInt64 0 1 h = some (if v < 0 ∨ 1 < v then 0 else 1) := m_in v 0 1 (by decide) (by decide)
  by_cases z : mS h 0 = 0
  · exact ⟨-1, by rw [cl, ht.1, if_pos z], by rw [rf, m_isTrug v0, Option.bind_some, if_pos z]⟩
  by_cases z0 : v < 0
  · exact ⟨-1, by rw [cl, ht.1, if_neg z, if_pos z0], by rw [rf, m_isTrug v0, Option.bind_some, if_neg z, mi, if_pos (Or.inl z0)]; rfl⟩
  by_cases z1 : ¬ v ≤ 1
  · exact ⟨-1, by rw [cl, ht.1, if_neg z, if_neg z0, if_neg z1], by rw [rf, m_isTrug v0, Option.bind_some, if_neg z, mi, if_pos (Or.inr (Int32.not_le.mp z1))]; rfl⟩
  have z1 : v ≤ 1 := Decidable.not_not.mp z1
  obtain ⟨load, el⟩ : ∃ load, load = isum (fun k => mS h (28 + k)) (vIn (mS h)) n + mS h 2 := ⟨_, rfl⟩
  have ml : f_M_loadNow h = some load := by rw [m_loadNow hn, el]
  have cll : f_State_load 0 (h.1 8 2 0) h = some load := by rw [c_load hst n8, ht.2.2.1, el, Int32.add_comm]
  obtain ⟨b, eb⟩ : ∃ b, b = fold (poM (fun S => isum (fun c => mS h (60 + c)) (fun c => S.testBit c) m) load) none (2 ^ m) := ⟨_, rfl⟩
  have hb : ∀ g, b = some g → g < 256 := fun g hg => poM_lt (2 ^ m) (by have := pow_le16 m4; omega) g (eb ▸ hg)
  have cf : f_Bearing_fewestFor load 0 h = some (oI b) := by
    rw [eb]
    exact c_fewestFor m4 (ht.2.2.2.2.1.trans v4) ht.2.2.2.2.2.2.1 load
  have fin : ∃ r, f_M_pole_b118 v (oI b) h = some r ∧ (if oI b = -1 then some (-2) else if v = 0 then (f_Integer_bitCount (oI b) h).bind (fun r10 => some r10) else some (oI b)) = some r := by
    unfold f_M_pole_b118
    cases b with
    | none => exact ⟨-2, by rw [if_neg (show ¬ (0 : Int32) ≤ oI none by decide)], by rw [if_pos (show oI none = -1 from rfl)]⟩
    | some g =>
      have hg := hb g rfl
      have n1 : ¬ oI (some g) = -1 := nI_nm1 (by omega)
      have n2 : (0 : Int32) ≤ oI (some g) := Int32.not_lt.mp (nI_pos (by omega))
      rw [if_neg n1, if_pos n2, show oI (some g) = nI g from rfl, m_bits hg, c_bitCount hg]
      split
      · exact ⟨_, rfl, rfl⟩
      · exact ⟨_, rfl, rfl⟩
  obtain ⟨r, f1, f2⟩ := fin
  refine ⟨r, ?_, ?_⟩
  · rw [cl, ht.1, if_neg z, if_neg z0, if_pos z1, cll, Option.bind_some, cf, Option.bind_some, f2]
  · rw [rf, m_isTrug v0, Option.bind_some, if_neg z, mi, if_neg (fun y => y.elim z0 (Int32.not_lt.mpr z1)), Option.bind_some, if_neg (by decide)]
    exact m_pole23 m4 v4 ml (eb ▸ f1)
