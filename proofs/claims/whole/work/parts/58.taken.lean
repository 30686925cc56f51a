/-! PURE: rings and taken -/
theorem whl_cntE {σ ρ : Type} {step : σ → Option (σ ⊕ ρ)} (n : Nat) (P : Nat → σ → Prop) (X : ρ → Prop) (hs : ∀ k, k < n → ∀ s, P k s → (∃ s', step s = some (Sum.inl s') ∧ P (k + 1) s') ∨ (∃ x, step s = some (Sum.inr x) ∧ X x)) (he : ∀ s, P n s → ∃ x, step s = some (Sum.inr x) ∧ X x) : ∀ s, P 0 s → ∃ x, whl step s = some x ∧ X x := by
  have key : ∀ j, j ≤ n → ∀ s, P (n - j) s → ∃ x, whl step s = some x ∧ X x := by
    intro j
    induction j with
    | zero =>
      intro _ s hp
      rw [Nat.sub_zero] at hp
      obtain ⟨x, e, hx⟩ := he s hp
      exact ⟨x, by rw [whl_eq, e]; rfl, hx⟩
    | succ j ih =>
      intro hj s hp
      rcases hs (n - (j + 1)) (by omega) s hp with ⟨s', e, hp'⟩ | ⟨x, e, hx⟩
      · rw [show n - (j + 1) + 1 = n - j by omega] at hp'
        obtain ⟨x, e2, hx⟩ := ih (by omega) s' hp'
        exact ⟨x, by rw [whl_eq, e]; exact e2, hx⟩
      · exact ⟨x, by rw [whl_eq, e]; rfl, hx⟩
  intro s hp
  refine key n (Nat.le_refl n) s ?_
  rw [Nat.sub_self]
  exact hp
theorem sameJ_A {h : xH} {f i : Nat} {A : Nat → Int32} (hn : ¬ jG f i) : sameJ h (xsA h f i A) := ⟨fun _ _ _ _ => rfl, fun f' i' q => rdA_n (fun z => hn (z.1 ▸ z.2 ▸ q))⟩
theorem sameJ_I {h : xH} {c k i : Nat} {v : Int32} (hn : ¬ jF c k i) : sameJ h (xsI h c k i v) := ⟨fun c' k' i' q => rdI_3 (fun z => hn (z.1 ▸ z.2.1 ▸ z.2.2 ▸ q)), fun _ _ _ => rfl⟩
theorem m_isTrug {h : xH} (hv : mS h 0 = 0 ∨ mS h 0 = 1) : f_M_isTrug h = some (mS h 0) := by
  show (if mS h 0 = 1 then some 1 else some (0 : Int32)) = _
  rcases hv with e | e <;> rw [e] <;> rfl
/-- what lies under what, as numbers -/
def uV (V : Nat → Int32) (k : Nat) : Nat := (V (36 + k)).toNatClampNeg
theorem uV_e {V : Nat → Int32} {n m c : Nat} (hv : vOk V n m c) {k : Nat} (hk : k < n) : V (36 + k) = nI (uV V k) ∧ uV V k < 256 := by
  obtain ⟨-, -, -, -, -, n8, -, -, -, -, vk, -⟩ := hv
  obtain ⟨-, -, -, ⟨z, hz, e⟩, -⟩ := vk k hk
  have z8 : z < 256 := Nat.lt_of_lt_of_le hz (show 2 ^ n ≤ 2 ^ 8 from Nat.pow_le_pow_right (by decide) n8)
  have : uV V k = z := by
    show (V (36 + k)).toNatClampNeg = z
    rw [e, nI_clamp (by omega)]
  rw [this]
  exact ⟨e, z8⟩
variable {Q : xH → Nat → Prop}
/-- rings -/
theorem p_rings (hQ : qOk Q) : lI_rings (jII Q) := by
  rintro h ⟨R, hR, r1, r2, hj, hq⟩
  have keep : jII Q h := ⟨R, hR, r1, r2, hj, hq⟩
  obtain ⟨n, m, c, ⟨hv, ht, hst, -⟩, -⟩ := hj.2.2.2
  obtain ⟨v0, -, -, -, v3, n8, -⟩ := id hv
  have hn : mN h n := ⟨v3, n8⟩
  have cl : f_B_rings h = (if h.1 8 0 0 = 0 then some (-1, h) else (f_Sets_ringsAmong_30 (h.1 6 2 0) 0 h).bind (fun q4 => some (q4.1, q4.2))) := rfl
  have rf : ∀ h1 : xH, f_M_rings h1 = (f_M_isTrug h1).bind (fun r1 => if r1 = 0 then some (-1) else (f_M_inside h1).bind (fun r4 => (f_M_ringsIn r4 h1).bind (fun r6 => some r6))) := fun _ => rfl
  by_cases z : mS h 0 = 0
  · exact ⟨-1, h, by rw [cl, ht.1, if_pos z], by rw [rf, m_isTrug v0, Option.bind_some, if_pos z], keep⟩
  have e30 : ∀ k, k < n → h.2.2.2.1 30 0 k = nI (uV (mS h) k) ∧ uV (mS h) k < 256 := fun k hk => ⟨((hst.2.2.2.2 k hk).2.1).trans (uV_e hv hk).1, (uV_e hv hk).2⟩
  have hS := bs_lt8 (vIn (mS h)) n8
  have hSn : ∀ o, (bs (vIn (mS h)) n).testBit o = true → o < n := fun o ho => by
    by_cases hon : o < n
    · exact hon
    · rw [bs_hi (by omega)] at ho; cases ho
  obtain ⟨A, eA⟩ := c_ringsAmong (h := h) (i2 := 0) n8 e30 hS hSn
  have hn1 : mN (xsA h 28 0 A) n := by
    refine ⟨?_, n8⟩
    show (xsA h 28 0 A).2.2.2.1 56 0 3 = _
    rw [rdA_n (by decide)]
    exact v3
  have eS : mS (xsA h 28 0 A) = mS h := by
    show (xsA h 28 0 A).2.2.2.1 56 0 = h.2.2.2.1 56 0
    exact rdA_n (by decide)
  refine ⟨nI (rgB (uV (mS h)) (bs (vIn (mS h)) n) n), xsA h 28 0 A, ?_, ?_, sameJ_jII hQ (sameJ_A (by unfold jG; omega)) keep⟩
  · rw [cl, ht.1, if_neg z, hst.2.2.1, eA]
    rfl
  · rw [rf, m_isTrug (by rw [eS]; exact v0), Option.bind_some, eS, if_neg z, m_inside hn1, Option.bind_some, mIn_v, eS, m_ringsIn hn1 (U := uV (mS h)) (fun k hk => by rw [eS]; exact uV_e hv hk) hS]
    rfl
/-! how many -/
def bcE (v0 : Int32) : Int32 :=
  let v1 := v0 - ((((v0).toUInt32 >>> (((1 : Int32)).toUInt32 &&& Int32.toUInt32 31)).toInt32) &&& (1431655765 : Int32))
  let v2 := (v1 &&& (858993459 : Int32)) + ((((v1).toUInt32 >>> (((2 : Int32)).toUInt32 &&& Int32.toUInt32 31)).toInt32) &&& (858993459 : Int32))
  let v3 := (v2 + (((v2).toUInt32 >>> (((4 : Int32)).toUInt32 &&& Int32.toUInt32 31)).toInt32)) &&& (252645135 : Int32)
  let v4 := v3 + (((v3).toUInt32 >>> (((8 : Int32)).toUInt32 &&& Int32.toUInt32 31)).toInt32)
  let v5 := v4 + (((v4).toUInt32 >>> (((16 : Int32)).toUInt32 &&& Int32.toUInt32 31)).toInt32)
  v5 &&& (63 : Int32)
theorem bcE_e : ∀ B, B < 256 → bcE (nI B) = nI (pc B) := by decide +kernel
theorem c_bitCount {h : xH} {B : Nat} (hB : B < 256) : f_Integer_bitCount (nI B) h = some (nI (pc B)) := by
  have : f_Integer_bitCount (nI B) h = some (bcE (nI B)) := rfl
  rw [this, bcE_e B hB]
theorem bt_step : ∀ B, B < 256 → B ≠ 0 → nI B &&& (nI B - 1) = nI (B &&& (B - 1)) ∧ pc (B &&& (B - 1)) + 1 = pc B ∧ B &&& (B - 1) < 256 := by decide +kernel
theorem pc_z : pc 0 = 0 := by decide
theorem m_bits {h : xH} {B : Nat} (hB : B < 256) : f_M_bits (nI B) h = some (nI (pc B)) := by
  have key : ∀ c a B, B < 256 → pc B = c → whl (fun s => f_M_bits_s4 s.1 s.2 h) (nI a, nI B) = some (nI (a + c)) := by
    intro c
    induction c with
    | zero =>
      intro a B hB hp
      rw [pc_0 B hB hp, whl_eq]
      rfl
    | succ c ih =>
      intro a B hB hp
      have h0 : B ≠ 0 := fun z => by rw [z, pc_z] at hp; omega
      obtain ⟨e1, e2, e3⟩ := bt_step B hB h0
      rw [whl_eq]
      have e4 : f_M_bits_s4 (nI a) (nI B) h = some (Sum.inl (nI (a + 1), nI (B &&& (B - 1)))) := by
        unfold f_M_bits_s4
        rw [if_neg (nI_ne0 (by omega) (by omega)), xlet_e, xlet_e, e1, nI_1]
      show (f_M_bits_s4 (nI a) (nI B) h).bind _ = _
      rw [e4, Option.bind_some]
      show whl (fun s => f_M_bits_s4 s.1 s.2 h) (nI (a + 1), nI (B &&& (B - 1))) = _
      rw [ih (a + 1) _ e3 (by omega), show a + 1 + c = a + (c + 1) by omega]
  have := key (pc B) 0 B hB rfl
  rw [Nat.zero_add] at this
  exact this
