/-! PURE: rule: a clause; what a row of signs of a sum or a test is -/
theorem sumG_of {l : List (Nat × Nat)} (x : exG l) (h : np l ≤ 60) : sumG l := fun w => x w 60 [] (by show 0 + np l ≤ 60; omega)
theorem tstG_of {l : List (Nat × Nat)} (x : exT l) (h : np l ≤ 60) : tstG l := fun w => by
  obtain ⟨u, e, hu⟩ := x w 60 [] (by show 0 + np l ≤ 60; omega)
  exact ⟨u, e, hu⟩
/-- the word if, of the reference -/
theorem m_takesIf {h : xH} {t p q : Nat} {B : Nat → Nat} (hm : mat h t B q) (hq : rn isSB B t q = p) : f_M_takesWord 26982 h = some (ind (isWd B t p 16), xsI h 12 8 0 (nI (@ite _ (isWd B t p 16) (Classical.propDecidable _) (rn isLB B t p) p))) := by
  have s0 : f_M_takesWord 26982 h = (f_M_isWord 26982 h).bind (fun q3 => if q3.1 = 0 then some (0, q3.2) else (f_M_passWord q3.2).bind (fun h7 => some (1, h7))) := rfl
  have pt : p ≤ t := by rw [← hq]; exact rn_le q hm.2.2
  rw [s0, m_isWord hm (by decide) kIf, Option.bind_some, hq]
  by_cases w : isWd B t p 16
  · rw [ind_t w, if_neg i1, m_passWord (mat_s hm pt), Option.bind_some, xsI_2, @if_pos _ (Classical.propDecidable _) w]
  · rw [ind_f w, if_pos rfl, @if_neg _ (Classical.propDecidable _) w]
