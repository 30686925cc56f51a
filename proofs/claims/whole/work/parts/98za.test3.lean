/-! PURE: rule: the end of a test -/
variable {t R : Nat} {B : Nat → Nat}
theorem m_K2no {b : xH} {p : Nat} (hm : mat b t B p) (hp : rn isSB B t p = p) (na : ¬ isWd B t p 18) (no : ¬ isWd B t p 17) : mK2 b = f_M_tested_b112 b := by
  have e54 : f_M_tested_b54 0 b = (if (0 : Int32) = 0 then some (Sum.inl (0, b)) else (f_M_isWord 6385252 b).bind (fun q35 => if q35.1 = 0 then f_M_tested_b76 0 13 q35.2 else f_M_tested_b76 0 12 q35.2)) := rfl
  unfold mK2 mW
  rw [m_isW hm hp (by decide) kAnd, Option.bind_some, ind_f na, if_pos rfl, m_isW hm hp (by decide) kOr, Option.bind_some, ind_f no, if_pos rfl, e54, if_pos rfl, Option.bind_some]
  exact m_T0
theorem m_b112E {h : xH} : f_M_tested_b112 h = (f_M_isInside_0 h).bind (fun r4 => if r4 = 0 then (f_M_layDown_l0 1 h).bind (fun h9 => some (1, h9)) else (f_M_see h).bind (fun q12 => (f_M_fails 0 (q12.2.1 12 8 0) q12.2).bind nrm)) := rfl
/-- a bracket is still open -/
theorem m_b112i {b : xH} {p d : Nat} {S : List Nat} (hm : mat b t B p) (hp : rn isSB B t p = p) (hz : tz b d S) (h4 : S.length ≤ 400) (hi : 91 ∈ S) : f_M_tested_b112 b = some (0, xsI b 12 9 0 (flt (b.1 12 9 0) p 0)) := by
  rw [m_b112E, m_inside0 hz h4, Option.bind_some, ind_t hi, if_neg i1, m_see2 hm hp, Option.bind_some, hm.2.1, show f_M_fails 0 (nI p) b = f_M_fails (nI 0) (nI p) b from rfl, m_fails, Option.bind_some, nrm_01 (Or.inl rfl)]
/-- all is laid down -/
theorem m_b112o {b : xH} {d C : Nat} {π : List Nat} (hz : tz b d π) (hπ : ∀ x, x ∈ π → x = 12 ∨ x = 13) (h4 : π.length ≤ 400) (hR : R < 6) (e11 : b.1 12 11 0 = nI R) (hC : b.2.2.2.1 49 0 R = nI C) (hC4 : C + π.length ≤ 400) : ∃ b', f_M_tested_b112 b = some (1, b') ∧ tz b' d [] ∧ apM b b' R C (tk0 π) ∧ tfM R b b' ∧ (∀ k, ¬ (k = 13 ∨ k = 16) → b'.1 12 k 0 = b.1 12 k 0) := by
  have n91 : ¬ 91 ∈ π := fun z => by have := hπ 91 z; omega
  obtain ⟨g, eg, zg, mg, fg, kg⟩ := m_lays (v := 1) (R := R) (d := d) (S := []) (by decide) (by decide) hR (fun x T e => by cases e) π b C (fun x hx => ⟨hπ x hx, by rcases hπ x hx with y | y <;> rw [y] <;> decide⟩) (by rw [List.append_nil]; exact hz) (by rw [List.append_nil]; exact h4) e11 hC hC4
  have eg : f_M_layDown_l0 1 b = some g := eg
  exact ⟨g, by rw [m_b112E, m_inside0 hz h4, Option.bind_some, ind_f n91, if_pos rfl, eg, Option.bind_some], zg, mg, fg, kg⟩
/-! tests stay 0 or 1 -/
theorem opI12 {x y : Int64} (hx : x = 0 ∨ x = 1) (hy : y = 0 ∨ y = 1) : opI 12 x y = 0 ∨ opI 12 x y = 1 := by
  rcases hx with rfl | rfl <;> rcases hy with rfl | rfl <;> decide
theorem opI13 {x y : Int64} (hx : x = 0 ∨ x = 1) (hy : y = 0 ∨ y = 1) : opI 13 x y = 0 ∨ opI 13 x y = 1 := by
  rcases hx with rfl | rfl <;> rcases hy with rfl | rfl <;> decide
theorem exT_g {l : List (Nat × Nat)} (x : exT l) : exG l := fun w N st hl => by
  obtain ⟨u, e, _⟩ := x w N st hl
  exact ⟨u, e⟩
/-- and, or of two tests -/
theorem exT_op {l m : List (Nat × Nat)} {o : Nat} (ho : o = 12 ∨ o = 13) (x : exT l) (y : exT m) : exT (l ++ (m ++ [(o, 0)])) := fun w N st hl => by
  have og : opG o := by unfold opG; omega
  rw [np_a, np_a, op_np og] at hl
  have n1 := exG_np (exT_g x)
  obtain ⟨u, eu, hu⟩ := x w N st (by omega)
  obtain ⟨v, ev, hv⟩ := y w N (u :: st) (by show st.length + 1 + np m ≤ N; omega)
  rw [evs_app, eu, Option.bind_some, evs_app, ev, Option.bind_some, op_ev og]
  refine ⟨_, rfl, ?_⟩
  rcases ho with rfl | rfl
  · exact opI12 hu hv
  · exact opI13 hu hv
/-- not -/
theorem exT_not {l : List (Nat × Nat)} (x : exT l) : exT (l ++ [(11, 0)]) := fun w N st hl => by
  have n0 : np [(11, 0)] = 0 := rfl
  rw [np_a, n0] at hl
  obtain ⟨u, eu, hu⟩ := x w N st (by omega)
  rw [evs_app, eu, Option.bind_some]
  refine ⟨1 - u, rfl, ?_⟩
  rcases hu with rfl | rfl <;> decide
