/-! PURE: bits of sets of at most eight, by trying all -/
theorem sb_or1 : ∀ k, k < 8 → ∀ B, B < 2 ^ k → nI B ||| ((1 : Int32) <<< (nI k &&& 31)) = nI (B + 2 ^ k) := by decide +kernel
theorem sb_or0 (x : Int32) : x ||| 0 = x := by simp
theorem sb_of : ∀ B, B < 256 → ∀ k, k < 8 → ((nI B >>> (nI k &&& 31)) &&& 1) = if B.testBit k then 1 else 0 := by decide +kernel
theorem sb_and0 : ∀ B, B < 256 → ∀ C, C < 256 → (nI B &&& nI C = 0 ↔ B &&& C = 0) := by decide +kernel
theorem sb_and : ∀ B, B < 256 → ∀ C, C < 256 → nI B &&& nI C = nI (B &&& C) := by decide +kernel
