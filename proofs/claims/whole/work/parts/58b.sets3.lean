/-! PURE: sets as numbers: less, within -/
theorem sb_sub : ∀ k, k < 256 → ∀ a, a < 256 → (nI k &&& (nI a ^^^ (-1 : Int32)) = 0 ↔ k &&& a = k) := by decide +kernel
theorem sb_dif : ∀ a, a < 256 → ∀ k, k < 256 → nI a &&& (nI k ^^^ (-1 : Int32)) = nI (a &&& (255 ^^^ k)) := by decide +kernel
