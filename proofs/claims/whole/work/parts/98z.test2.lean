/-! PURE: rule: how the reference goes on behind a fact -/
variable {t R : Nat} {B : Nat → Nat}
theorem m_Gnot {b : xH} {d C : Nat} {S : List Nat} (hz : tz b d (11 :: S)) (h4 : S.length < 400) (hR : R < 6) (e11 : b.1 12 11 0 = nI R) (hC : b.2.2.2.1 49 0 R = nI C) (hC4 : C < 400) (hd : 1 ≤ d) : ∃ b', mG b = mG b' ∧ tz b' (d - 1) S ∧ apM b b' R C [(11, 0)] ∧ tfM R b b' ∧ (∀ k, ¬ (k = 13 ∨ k = 16) → b'.1 12 k 0 = b.1 12 k 0) := by
  obtain ⟨b1, e1, z1, m1, f1, k1⟩ := m_lay1 (v := 3) hz h4 (by decide) (by decide) hR e11 hC hC4 (fun _ => hd)
  rw [if_pos rfl] at z1
  refine ⟨b1, ?_, z1, m1, f1, k1⟩
  unfold mG
  rw [show f_M_layDown_l0 3 b = f_M_layDown_l0 3 b1 from e1]
theorem m_Gstop {b : xH} {d : Nat} {S : List Nat} (hz : tz b d S) (h4 : S.length ≤ 400) (hs : ∀ T, ¬ S = 11 :: T) : mG b = mCl b := by
  have e : f_M_layDown_l0 3 b = some b := m_lay0 (v := 3) hz h4 (by decide) (fun x T e => by
    have n : ¬ x = 11 := fun y => hs T (by rw [e, y])
    unfold str
    split
    · decide
    split
    · decide
    · decide)
  unfold mG
  rw [e, Option.bind_some]
theorem m_closeE {h : xH} : f_M_closes_s5 h = (f_M_see h).bind (fun q6 => if q6.1 = 93 then (f_M_isInside_0 q6.2).bind (fun r8 => if r8 = 0 then some (Sum.inr q6.2) else (f_M_layDown_l0 1 q6.2).bind (fun h13 => (f_M_layDown_l0 3 (xsI (xsI (xsI h13 12 16 0 (h13.1 12 16 0 - 1)) 12 13 0 ((xsI h13 12 16 0 (h13.1 12 16 0 - 1)).1 12 13 0 - 1)) 12 8 0 ((xsI (xsI h13 12 16 0 (h13.1 12 16 0 - 1)) 12 13 0 ((xsI h13 12 16 0 (h13.1 12 16 0 - 1)).1 12 13 0 - 1)).1 12 8 0 + 1))).bind (fun h19 => some (Sum.inl h19)))) else some (Sum.inr q6.2)) := rfl
/-- no bracket is closed here -/
theorem m_ClNo {b : xH} {q p d : Nat} {S : List Nat} (hm : mat b t B q) (hq : rn isSB B t q = p) (hz : tz b d S) (h4 : S.length ≤ 400) (hn : ¬ (p < t ∧ B p = 93 ∧ 91 ∈ S)) : mCl b = mK2 (xsI b 12 8 0 (nI p)) := by
  have zh : tz (xsI b 12 8 0 (nI p)) d S := tz_of (rdI (by decide)) (rdI (by decide)) rfl hz
  have e : f_M_closes_l5 b = some (xsI b 12 8 0 (nI p)) := by
    refine whl_en ?_
    show f_M_closes_s5 b = _
    rw [m_closeE, m_see hm, Option.bind_some, hq]
    by_cases c : p < t ∧ B p = 93
    · rw [if_pos (show cdB B t p = 93 from (m_cd (s := 93) hm.1 (by decide)).mpr c), m_inside0 zh h4, Option.bind_some, ind_f (fun y => hn ⟨c.1, c.2, y⟩), if_pos rfl]
    · rw [if_neg (show ¬ cdB B t p = 93 from fun y => c ((m_cd (s := 93) hm.1 (by decide)).mp y))]
  unfold mCl
  rw [e, Option.bind_some]
/-- a bracket is closed -/
theorem m_ClYes {b : xH} {q p d C : Nat} {π S : List Nat} (hm : mat b t B q) (hq : rn isSB B t q = p) (pt : p < t) (hB : B p = 93) (hz : tz b d (π ++ 91 :: S)) (hπ : ∀ x, x ∈ π → x = 12 ∨ x = 13) (h4 : (π ++ 91 :: S).length ≤ 400) (hR : R < 6) (e11 : b.1 12 11 0 = nI R) (hC : b.2.2.2.1 49 0 R = nI C) (hC4 : C + π.length ≤ 400) (hd : 1 ≤ d) : ∃ b', mCl b = mG b' ∧ tz b' (d - 1) S ∧ apM b b' R C (tk0 π) ∧ tfM R b b' ∧ mat b' t B (p + 1) ∧ (∀ k, ¬ (k = 8 ∨ k = 13 ∨ k = 16) → b'.1 12 k 0 = b.1 12 k 0) := by
  obtain ⟨h, eh⟩ : ∃ h, h = xsI b 12 8 0 (nI p) := ⟨_, rfl⟩
  have mh : mat h t B p := by rw [eh]; exact mat_s hm (by omega)
  have zh : tz h d (π ++ 91 :: S) := by rw [eh]; exact tz_of (rdI (by decide)) (rdI (by decide)) rfl hz
  have hI : ∀ k, ¬ k = 8 → h.1 12 k 0 = b.1 12 k 0 := fun k z => by rw [eh, rdI (by omega)]
  obtain ⟨g, eg, zg, mg, fg, kg⟩ := m_lays (v := 1) (R := R) (d := d) (S := 91 :: S) (by decide) (by decide) hR (fun x T e => by cases e; decide) π h C (fun x hx => ⟨hπ x hx, by rcases hπ x hx with y | y <;> rw [y] <;> decide⟩) zh h4 (by rw [hI 11 (by decide)]; exact e11) (by rw [eh]; exact hC) hC4
  have eg : f_M_layDown_l0 1 h = some g := eg
  obtain ⟨y1, y2, ⟨y3, y3'⟩, y5, y6⟩ := zg
  have y1 : g.1 12 16 0 = nI (S.length + 1) := y1
  obtain ⟨e, rfl⟩ : ∃ e, d = e + 1 := ⟨d - 1, by omega⟩
  obtain ⟨b', eb'⟩ : ∃ b', b' = xsI (xsI (xsI g 12 16 0 (nI S.length)) 12 13 0 (nI e)) 12 8 0 (nI (p + 1)) := ⟨_, rfl⟩
  have st : f_M_closes_s5 b = (f_M_layDown_l0 3 b').bind (fun h19 => some (Sum.inl h19)) := by
    rw [m_closeE, m_see hm, Option.bind_some, hq, if_pos (show cdB B t p = 93 from (m_cd (s := 93) hm.1 (by decide)).mpr ⟨pt, hB⟩), ← eh, m_inside0 zh h4, Option.bind_some, ind_t (List.mem_append.mpr (Or.inr (List.mem_cons_self ..))), if_neg i1, eg, Option.bind_some, y1, nI_pred, rdI (by decide), y2, nI_pred, rdI (by decide), rdI (by decide), kg 8 (by decide), mh.2.1, nI_1, ← eb']
  have bI : ∀ k, ¬ (k = 8 ∨ k = 13 ∨ k = 16) → b'.1 12 k 0 = b.1 12 k 0 := fun k z => by rw [eb', rdI (by omega), rdI (by omega), rdI (by omega), kg k (by omega), hI k (by omega)]
  have bA : ∀ f i, b'.2.2.2.1 f i = g.2.2.2.1 f i := fun f i => by rw [eb']; rfl
  refine ⟨b', ?_, ⟨by rw [eb', rdI (by decide), rdI (by decide), rdI_s], by rw [eb', rdI (by decide), rdI_s]; rfl, by rw [bA]; exact y3', fun x hx => y5 x (List.mem_cons_of_mem _ hx), by omega⟩, ⟨by rw [bA]; exact mg.1, fun j hj => by rw [bA, mg.2.1 j hj, eh]; rfl, by rw [bA]; exact mg.2.2⟩, tfM_t (by rw [eh]; exact tfM_I (by omega)) (tfM_t fg (by rw [eb']; exact tfM_t (tfM_I (by omega)) (tfM_t (tfM_I (by omega)) (tfM_I (by omega))))), ⟨mtx_of (bI 1 (by decide)) (by rw [bA, fg.2.1 47 0 (by decide), eh]; rfl) hm.1, by rw [eb', rdI_s], by omega⟩, bI⟩
  unfold mCl mG
  have e5 : f_M_closes_l5 b = (f_M_closes_s5 b).bind (fun o => Sum.elim f_M_closes_l5 some o) := whl_eq
  rw [e5, st, Option.bind_assoc, Option.bind_assoc]
  rfl
/-- and, or -/
theorem m_K2op {b : xH} {p d C x w : Nat} {π S : List Nat} (hm : mat b t B p) (hp : rn isSB B t p = p) (hxw : (x = 12 ∧ w = 18) ∨ (x = 13 ∧ w = 17)) (hw : isWd B t p w) (hz : tz b d (π ++ S)) (hπ : ∀ y, y ∈ π → (y = 12 ∨ y = 13) ∧ str x ≤ str y) (hs : ∀ y T, S = y :: T → str y < str x) (h4 : (π ++ S).length < 400) (hR : R < 6) (e11 : b.1 12 11 0 = nI R) (hC : b.2.2.2.1 49 0 R = nI C) (hC4 : C + π.length ≤ 400) : ∃ b', mK2 b = mF b' ∧ tz b' d (x :: S) ∧ apM b b' R C (tk0 π) ∧ tfM R b b' ∧ mat b' t B (rn isLB B t p) ∧ (∀ k, ¬ (k = 8 ∨ k = 13 ∨ k = 16) → b'.1 12 k 0 = b.1 12 k 0) := by
  obtain ⟨h, eh⟩ : ∃ h, h = xsI b 12 8 0 (nI (rn isLB B t p)) := ⟨_, rfl⟩
  have zh : tz h d (π ++ S) := by rw [eh]; exact tz_of (rdI (by decide)) (rdI (by decide)) rfl hz
  have hI : ∀ k, ¬ k = 8 → h.1 12 k 0 = b.1 12 k 0 := fun k z => by rw [eh, rdI (by omega)]
  have sx : 1 ≤ str x ∧ str x ≤ 3 := by rcases hxw with ⟨rfl, _⟩ | ⟨rfl, _⟩ <;> decide
  obtain ⟨g, eg, zg, mg, fg, kg⟩ := m_lays (v := str x) (R := R) (d := d) (S := S) sx.1 sx.2 hR hs π h C hπ zh (by omega) (by rw [hI 11 (by decide)]; exact e11) (by rw [eh]; exact hC) hC4
  obtain ⟨y1, y2, y3, y5, y6⟩ := zg
  have l4 : S.length < 400 := by rw [List.length_append] at h4; omega
  obtain ⟨b', eb'⟩ : ∃ b', b' = xsI (xsA g 53 0 (upd (g.2.2.2.1 53 0) S.length (nI x))) 12 16 0 (nI (S.length + 1)) := ⟨_, rfl⟩
  have e76 : f_M_tested_b76 1 (nI x) b = some (Sum.inl (1, b')) := by
    have s0 : f_M_tested_b76 1 (nI x) b = (f_M_passWord b).bind (fun h39 => (f_M_strength (nI x) h39).bind (fun r40 => (f_M_layDown_l0 r40 h39).bind (fun h44 => if xib (h44.1 12 16 0) 400 then some (Sum.inl (1, xsI (xsA h44 53 0 (upd (h44.2.2.2.1 53 0) (h44.1 12 16 0).toNatClampNeg (nI x))) 12 16 0 (h44.1 12 16 0 + 1))) else none))) := rfl
    rw [s0, m_passWord hm, Option.bind_some, m_str (by omega), Option.bind_some, ← eh, eg, Option.bind_some, y1, if_pos (xibN l4 (by decide)), nI_clamp (by omega), nI_1, ← eb']
  have b53 : b'.2.2.2.1 53 0 = upd (g.2.2.2.1 53 0) S.length (nI x) := by rw [eb']; show (xsA g 53 0 _).2.2.2.1 53 0 = _; rw [rdA_s]
  have bA : ∀ f i, ¬ (f = 53 ∧ i = 0) → b'.2.2.2.1 f i = g.2.2.2.1 f i := fun f i z => by rw [eb']; show (xsA g 53 0 _).2.2.2.1 f i = _; rw [rdA_n z]
  have bI : ∀ c k i, ¬ (c = 12 ∧ k = 16) → b'.1 c k i = g.1 c k i := fun c k i z => by rw [eb', rdI (by omega)]; rfl
  have bI2 : ∀ k, ¬ (k = 8 ∨ k = 13 ∨ k = 16) → b'.1 12 k 0 = b.1 12 k 0 := fun k z => by rw [bI 12 k 0 (by omega), kg k (by omega), hI k (by omega)]
  have lp : rn isLB B t p ≤ t := rn_le p hm.2.2
  refine ⟨b', ?_, ⟨by rw [eb', rdI_s]; rfl, by rw [bI 12 13 0 (by omega)]; exact y2, ⟨by rw [b53, pk_us], stK_c (fun j hj => by rw [b53, pk_un (by omega)]) y3⟩, fun y hy => ?_, y6⟩, ⟨by rw [bA 49 0 (by decide)]; exact mg.1, fun j hj => by rw [bA 48 0 (by decide), mg.2.1 j hj, eh]; rfl, by rw [bA 48 0 (by decide)]; exact mg.2.2⟩, tfM_t (show tfM R b h by rw [eh]; exact tfM_I (by omega)) (tfM_t fg ⟨fun c k i z => bI c k i (by omega), fun f i z => bA f i (by omega), fun j _ => by rw [bA 49 0 (by decide)], fun j _ => by rw [bA 48 0 (by decide)]⟩), ⟨mtx_of (bI2 1 (by decide)) (by rw [bA 47 0 (by decide), fg.2.1 47 0 (by decide), eh]; rfl) hm.1, by rw [bI 12 8 0 (by omega), kg 8 (by decide), eh, rdI_s], lp⟩, bI2⟩
  · have e54 : f_M_tested_b49 b = (if (1 : Int32) = 0 then some (Sum.inl (1, b)) else (f_M_isWord 6385252 b).bind (fun q35 => if q35.1 = 0 then f_M_tested_b76 1 13 q35.2 else f_M_tested_b76 1 12 q35.2)) := rfl
    unfold mK2 mW
    rw [m_isW hm hp (by decide) kAnd, Option.bind_some] at *
    rw [if_neg i1] at e54
    rcases hxw with ⟨rfl, rfl⟩ | ⟨rfl, rfl⟩
    · have e76 : f_M_tested_b76 1 12 b = some (Sum.inl (1, b')) := e76
      rw [ind_t hw, if_neg i1, e76] at e54
      rw [ind_t hw, if_neg i1, e54, Option.bind_some]
      exact m_T
    · have e76 : f_M_tested_b76 1 13 b = some (Sum.inl (1, b')) := e76
      have na := wd_1 (by decide) (by decide) hw (show 17 ≠ 18 by decide)
      rw [ind_f na, if_pos rfl, e76] at e54
      rw [ind_f na, if_pos rfl, m_isW hm hp (by decide) kOr, Option.bind_some, ind_t hw, if_neg i1, e54, Option.bind_some]
      exact m_T
  · rcases List.mem_cons.mp hy with e | e
    · omega
    · exact y5 y e
