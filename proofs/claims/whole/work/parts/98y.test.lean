/-! PURE: rule: how the reference goes on in a test -/
noncomputable def kEnd (o : (Int32 × xH) ⊕ (Int32 × xH)) : Option (Int32 × xH) := Sum.elim (fun s => f_M_tested_l12 s.1 s.2) some o
noncomputable def mW (h : xH) : Option ((Int32 × xH) ⊕ (Int32 × xH)) := (f_M_isWord 6385252 h).bind (fun q26 => if q26.1 = 0 then (f_M_isWord 28530 q26.2).bind (fun q30 => if q30.1 = 0 then f_M_tested_b54 0 q30.2 else f_M_tested_b49 q30.2) else f_M_tested_b49 q26.2)
noncomputable def mK2 (h : xH) : Option (Int32 × xH) := (mW h).bind kEnd
noncomputable def mCl (h : xH) : Option (Int32 × xH) := (f_M_closes_l5 h).bind mK2
noncomputable def mG (h : xH) : Option (Int32 × xH) := (f_M_layDown_l0 3 h).bind mCl
noncomputable def mK1 (q : Int32 × xH) : Option (Int32 × xH) := if q.1 = 0 then some (0, q.2) else mG q.2
noncomputable def mF (h : xH) : Option (Int32 × xH) := (f_M_fact_l2 1 h).bind mK1
theorem m_T {h : xH} : f_M_tested_l12 1 h = mF h := by
  have e1 : f_M_tested_l12 1 h = (f_M_tested_s12 1 h).bind kEnd := whl_eq
  have e2 : f_M_tested_s12 1 h = (if (1 : Int32) = 0 then xup (f_M_tested_b112 h) else (f_M_fact_l2 1 h).bind (fun q19 => if q19.1 = 0 then some (Sum.inr (0, q19.2)) else ((f_M_layDown_l0 3 q19.2).bind f_M_closes_l5).bind mW)) := rfl
  rw [e1, e2, if_neg i1, Option.bind_assoc]
  unfold mF
  congr 1
  funext q
  unfold mK1
  by_cases z : q.1 = 0
  · rw [if_pos z, if_pos z]; rfl
  · rw [if_neg z, if_neg z, Option.bind_assoc, Option.bind_assoc]
    rfl
theorem m_T0 {h : xH} : f_M_tested_l12 0 h = f_M_tested_b112 h := by
  refine whl_up ?_
  show (if (0 : Int32) = 0 then xup (f_M_tested_b112 h) else _) = _
  rw [if_pos rfl]
theorem m_factE {v : Int32} {h : xH} : f_M_fact_s2 v h = (if v = 0 then xup ((f_M_compare h).bind nrm) else (f_M_see h).bind (fun q8 => (f_M_isWord 7237492 q8.2).bind (fun q11 => if q11.1 = 0 then (if q8.1 = 91 then (f_M_opens 91 q11.2).bind (fun q16 => if q16.1 = 0 then some (Sum.inr (0, q16.2)) else some (Sum.inl (1, xsI q16.2 12 8 0 (q16.2.1 12 8 0 + 1)))) else some (Sum.inl (0, q11.2))) else (f_M_opens 11 q11.2).bind (fun q21 => if q21.1 = 0 then some (Sum.inr (0, q21.2)) else (f_M_passWord q21.2).bind (fun h25 => some (Sum.inl (1, h25))))))) := rfl
variable {t R : Nat} {B : Nat → Nat}
/-- what a sign put on the stack leaves -/
def pu (R : Nat) (b b' : xH) : Prop := tfM R b b' ∧ (∀ k, ¬ (k = 8 ∨ k = 13 ∨ k = 16) → b'.1 12 k 0 = b.1 12 k 0) ∧ (∀ f, ¬ f = 53 → b'.2.2.2.1 f 0 = b.2.2.2.1 f 0)
theorem m_Fnot {b : xH} {q p d : Nat} {S : List Nat} (hm : mat b t B q) (hq : rn isSB B t q = p) (hw : isWd B t p 19) (hz : tz b d S) (h4 : S.length < 400) : (d = 10 → mF b = some (0, xsI (xsI b 12 8 0 (nI p)) 12 9 0 (flt (b.1 12 9 0) p 2))) ∧ (d < 10 → ∃ b', mF b = mF b' ∧ tz b' (d + 1) (11 :: S) ∧ pu R b b' ∧ mat b' t B (rn isLB B t p)) := by
  have hp : rn isSB B t p = p := by rw [← hq]; exact rn_id
  have pt : p ≤ t := by rw [← hq]; exact rn_le q hm.2.2
  obtain ⟨h, eh⟩ : ∃ h, h = xsI b 12 8 0 (nI p) := ⟨_, rfl⟩
  have mh : mat h t B p := by rw [eh]; exact mat_s hm pt
  have zh : tz h d S := by rw [eh]; exact tz_of (rdI (by decide)) (rdI (by decide)) rfl hz
  have h9 : h.1 12 9 0 = b.1 12 9 0 := by rw [eh, rdI (by decide)]
  have st := m_factE (v := 1) (h := b)
  rw [if_neg i1, m_see hm, Option.bind_some, hq, ← eh, m_isW mh hp (by decide) kNot, Option.bind_some, ind_t hw, if_neg i1] at st
  obtain ⟨o1, o2⟩ := m_opens (R := R) (x := 11) zh h4 (Or.inl rfl) mh.2.1
  refine ⟨fun z => ?_, fun z => ?_⟩
  · have o1 : f_M_opens 11 h = _ := o1 z
    rw [o1, Option.bind_some, if_pos rfl, h9] at st
    unfold mF
    rw [show f_M_fact_l2 1 b = some (0, xsI h 12 9 0 (flt (b.1 12 9 0) p 2)) from whl_en st, Option.bind_some, ← eh]
    exact if_pos rfl
  · obtain ⟨b1, e1, z1, f1, k1, a1⟩ := o2 z
    have e1 : f_M_opens 11 h = some (1, b1) := e1
    have m1 : mat b1 t B p := ⟨mtx_of (k1 1 (by decide)) (a1 47 (by decide)) mh.1, by rw [k1 8 (by decide)]; exact mh.2.1, pt⟩
    obtain ⟨b2, eb2⟩ : ∃ b2, b2 = xsI b1 12 8 0 (nI (rn isLB B t p)) := ⟨_, rfl⟩
    rw [e1, Option.bind_some, if_neg i1, m_passWord m1, Option.bind_some, ← eb2] at st
    refine ⟨b2, ?_, by rw [eb2]; exact tz_of (rdI (by decide)) (rdI (by decide)) rfl z1, ⟨tfM_t (by rw [eh]; exact tfM_I (by omega)) (tfM_t f1 (by rw [eb2]; exact tfM_I (by omega))), fun k hk => ?_, fun f hf => ?_⟩, by rw [eb2]; exact mat_s m1 (rn_le p pt)⟩
    · unfold mF
      rw [show f_M_fact_l2 1 b = f_M_fact_l2 1 b2 from whl_st st]
    · rw [eb2, rdI (by omega), k1 k (by omega), eh, rdI (by omega)]
    · rw [eb2]
      show b1.2.2.2.1 f 0 = _
      rw [a1 f hf, eh]; rfl
theorem m_Fopen {b : xH} {q p d : Nat} {S : List Nat} (hm : mat b t B q) (hq : rn isSB B t q = p) (pt : p < t) (hB : B p = 91) (hz : tz b d S) (h4 : S.length < 400) : (d = 10 → mF b = some (0, xsI (xsI b 12 8 0 (nI p)) 12 9 0 (flt (b.1 12 9 0) p 2))) ∧ (d < 10 → ∃ b', mF b = mF b' ∧ tz b' (d + 1) (91 :: S) ∧ pu R b b' ∧ mat b' t B (p + 1)) := by
  have hp : rn isSB B t p = p := by rw [← hq]; exact rn_id
  obtain ⟨h, eh⟩ : ∃ h, h = xsI b 12 8 0 (nI p) := ⟨_, rfl⟩
  have mh : mat h t B p := by rw [eh]; exact mat_s hm (by omega)
  have zh : tz h d S := by rw [eh]; exact tz_of (rdI (by decide)) (rdI (by decide)) rfl hz
  have h9 : h.1 12 9 0 = b.1 12 9 0 := by rw [eh, rdI (by decide)]
  have nw : ¬ isWd B t p 19 := fun z => by
    have := of_decide_eq_true (ltB_t.mp (wd_l (by decide) z)).2
    rw [hB] at this
    omega
  have cd : cdB B t p = 91 := (m_cd (s := 91) hm.1 (by decide)).mpr ⟨pt, hB⟩
  have st := m_factE (v := 1) (h := b)
  rw [if_neg i1, m_see hm, Option.bind_some, hq, ← eh, m_isW mh hp (by decide) kNot, Option.bind_some, ind_f nw, if_pos rfl, if_pos cd] at st
  obtain ⟨o1, o2⟩ := m_opens (R := R) (x := 91) zh h4 (Or.inr rfl) mh.2.1
  refine ⟨fun z => ?_, fun z => ?_⟩
  · have o1 : f_M_opens 91 h = _ := o1 z
    rw [o1, Option.bind_some, if_pos rfl, h9] at st
    unfold mF
    rw [show f_M_fact_l2 1 b = some (0, xsI h 12 9 0 (flt (b.1 12 9 0) p 2)) from whl_en st, Option.bind_some, ← eh]
    exact if_pos rfl
  · obtain ⟨b1, e1, z1, f1, k1, a1⟩ := o2 z
    have e1 : f_M_opens 91 h = some (1, b1) := e1
    have m1 : mat b1 t B p := ⟨mtx_of (k1 1 (by decide)) (a1 47 (by decide)) mh.1, by rw [k1 8 (by decide)]; exact mh.2.1, by omega⟩
    obtain ⟨b2, eb2⟩ : ∃ b2, b2 = xsI b1 12 8 0 (nI (p + 1)) := ⟨_, rfl⟩
    rw [e1, Option.bind_some, if_neg i1, m1.2.1, nI_1, ← eb2] at st
    refine ⟨b2, ?_, by rw [eb2]; exact tz_of (rdI (by decide)) (rdI (by decide)) rfl z1, ⟨tfM_t (by rw [eh]; exact tfM_I (by omega)) (tfM_t f1 (by rw [eb2]; exact tfM_I (by omega))), fun k hk => ?_, fun f hf => ?_⟩, by rw [eb2]; exact mat_s m1 (by omega)⟩
    · unfold mF
      rw [show f_M_fact_l2 1 b = f_M_fact_l2 1 b2 from whl_st st]
    · rw [eb2, rdI (by omega), k1 k (by omega), eh, rdI (by omega)]
    · rw [eb2]
      show b1.2.2.2.1 f 0 = _
      rw [a1 f hf, eh]; rfl
theorem m_Fcmp {b : xH} {q p : Nat} (hm : mat b t B q) (hq : rn isSB B t q = p) (nw : ¬ isWd B t p 19) (nB : ¬ (p < t ∧ B p = 91)) : mF b = ((f_M_compare (xsI b 12 8 0 (nI p))).bind nrm).bind mK1 := by
  have hp : rn isSB B t p = p := by rw [← hq]; exact rn_id
  have pt : p ≤ t := by rw [← hq]; exact rn_le q hm.2.2
  have mh := mat_s hm pt
  have st := m_factE (v := 1) (h := b)
  rw [if_neg i1, m_see hm, Option.bind_some, hq, m_isW mh hp (by decide) kNot, Option.bind_some, ind_f nw, if_pos rfl, if_neg (show ¬ cdB B t p = 91 from fun z => nB ((m_cd (s := 91) hm.1 (by decide)).mp z))] at st
  unfold mF
  congr 1
  rw [show f_M_fact_l2 1 b = f_M_fact_l2 0 (xsI b 12 8 0 (nI p)) from whl_st st]
  refine whl_up ?_
  show f_M_fact_s2 0 _ = _
  rw [m_factE, if_pos rfl]
