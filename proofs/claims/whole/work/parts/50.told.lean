/-! PURE: a Told copied -/
/-- Told a has become what Told b is; nothing else has changed -/
def cpTo (h h1 : xH) (a b : Nat) : Prop :=
  (∀ k, k < 5 → h1.1 8 k a = h.1 8 k b) ∧ (∀ c k i, ¬ (c = 8 ∧ i = a) → h1.1 c k i = h.1 c k i) ∧ (∀ f, 37 ≤ f → f ≤ 40 → ∀ k, k < 8 → h1.2.2.2.1 f a k = h.2.2.2.1 f b k) ∧ (∀ k, k < 4 → h1.2.2.2.1 41 a k = h.2.2.2.1 41 b k) ∧ ∀ f i, ¬ (37 ≤ f ∧ f ≤ 41 ∧ i = a) → h1.2.2.2.1 f i = h.2.2.2.1 f i
theorem c_toldCopy {h : xH} {a b : Nat} (hab : a ≠ b) (h01 : h.1 8 0 b = 0 ∨ h.1 8 0 b = 1) : ∃ h1, f_Told_copyFrom a b h = some h1 ∧ cpTo h h1 a b := by
  refine ⟨_, (if_pos h01).trans rfl, ?_⟩
  have cp : ∀ (f g : Nat → Int32) (k : Nat), k < 8 → va_cpy f g ((0 : Int32)).toNatClampNeg ((0 : Int32)).toNatClampNeg ((8 : Int32)).toNatClampNeg k = f k := by
    intro f g k hk
    show (if 0 ≤ k ∧ k < 0 + 8 then f (0 + (k - 0)) else g k) = f k
    rw [if_pos ⟨Nat.zero_le _, by omega⟩]
    congr 1
    omega
  have cp4 : ∀ (f g : Nat → Int32) (k : Nat), k < 4 → va_cpy f g ((0 : Int32)).toNatClampNeg ((0 : Int32)).toNatClampNeg ((4 : Int32)).toNatClampNeg k = f k := by
    intro f g k hk
    show (if 0 ≤ k ∧ k < 0 + 4 then f (0 + (k - 0)) else g k) = f k
    rw [if_pos ⟨Nat.zero_le _, by omega⟩]
    congr 1
    omega
  refine ⟨fun k hk => ?_, fun c k i hn => ?_, fun f h1 h2 k hk => ?_, fun k hk => ?_, fun f i hn => ?_⟩
  · rcases (show k = 0 ∨ k = 1 ∨ k = 2 ∨ k = 3 ∨ k = 4 by omega) with rfl | rfl | rfl | rfl | rfl <;> simp [xsA, xsI, xw, upd, hab, Ne.symm hab]
  · exact (rdI_n hn).trans ((rdI_n hn).trans ((rdI_n hn).trans ((rdI_n hn).trans (rdI_n hn))))
  · have hba : ¬ b = a := fun z => hab z.symm
    rcases (show f = 37 ∨ f = 38 ∨ f = 39 ∨ f = 40 by omega) with rfl | rfl | rfl | rfl
    · rw [rdA_n (by omega), rdA_n (by omega), rdA_n (by omega), rdA_n (by omega), rdA_s, cp _ _ k hk]; rfl
    · rw [rdA_n (by omega), rdA_n (by omega), rdA_n (by omega), rdA_s, cp _ _ k hk, rdA_n (by omega)]; rfl
    · rw [rdA_n (by omega), rdA_n (by omega), rdA_s, cp _ _ k hk, rdA_n (by omega), rdA_n (by omega)]; rfl
    · rw [rdA_n (by omega), rdA_s, cp _ _ k hk, rdA_n (by omega), rdA_n (by omega), rdA_n (by omega)]; rfl
  · have hba : ¬ b = a := fun z => hab z.symm
    rw [rdA_s, cp4 _ _ k hk, rdA_n (by omega), rdA_n (by omega), rdA_n (by omega), rdA_n (by omega)]; rfl
  · rw [rdA_n (by omega), rdA_n (by omega), rdA_n (by omega), rdA_n (by omega), rdA_n (by omega)]; rfl
