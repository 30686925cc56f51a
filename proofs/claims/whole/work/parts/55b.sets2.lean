/-! PURE: sets as numbers: or, how many -/
theorem sb_or : ∀ B, B < 256 → ∀ C, C < 256 → nI B ||| nI C = nI (B ||| C) := by decide +kernel
theorem sb_pow : ∀ k, k < 8 → ((1 : Int32) <<< (nI k &&& 31)) = nI (2 ^ k) := by decide +kernel
theorem or_lt8 {B C : Nat} (hB : B < 256) (hC : C < 256) : B ||| C < 256 := Nat.or_lt_two_pow (n := 8) hB hC
theorem and_lt8 {B C : Nat} (hC : C < 256) : B &&& C < 256 := Nat.lt_of_le_of_lt Nat.and_le_right hC
/-- how many -/
def pc (B : Nat) : Nat := fold (fun k c => if B.testBit k then c + 1 else c) 0 8
theorem pc_le : ∀ B, B < 256 → pc B ≤ 8 := by decide +kernel
theorem pc_0 : ∀ B, B < 256 → pc B = 0 → B = 0 := by decide +kernel
theorem pc_sub : ∀ B, B < 256 → ∀ C, C < 256 → B ||| C = C → B ≠ C → pc B < pc C := by decide +kernel
