/-! PURE: submasks from above -/
/-- submasks from above -/
def gapB (set part : Nat) : Bool := (List.range (part - ((part - 1) &&& set) - 1)).all (fun d => decide ((((part - 1) &&& set) + 1 + d) &&& set ≠ ((part - 1) &&& set) + 1 + d))
theorem sm_b : ∀ set, set < 256 → ∀ part, part < 256 → part &&& set = part → gapB set part = true := by decide +kernel
theorem sm_gap {set part : Nat} (h1 : set < 256) (h2 : part < 256) (h3 : part &&& set = part) (d : Nat) (hd : d < part - ((part - 1) &&& set) - 1) : (((part - 1) &&& set) + 1 + d) &&& set ≠ ((part - 1) &&& set) + 1 + d :=
  of_decide_eq_true (List.all_eq_true.mp (sm_b set h1 part h2 h3) d (List.mem_range.mpr hd))
