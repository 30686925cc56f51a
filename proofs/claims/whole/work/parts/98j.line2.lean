/-! PURE: a clause of a trug, both sides -/
noncomputable def nrm (q : Int32 × xH) : Option (Int32 × xH) := if q.1 = 0 ∨ q.1 = 1 then some (q.1, q.2) else none
theorem nrm_01 {r : Int32} {b : xH} (h : r = 0 ∨ r = 1) : nrm (r, b) = some (r, b) := by
  show (if r = 0 ∨ r = 1 then some (r, b) else none) = _
  rw [if_pos h]
noncomputable def mTrug (b : xH) : Option (Int32 × xH) := (f_M_cellHere 1 1 300 b).bind (fun q7 => if q7.1 = 0 then some (0, q7.2) else (f_M_cellHere 2 0 20 q7.2).bind (fun q11 => if q11.1 = 0 then some (0, q11.2) else some (1, xsA q11.2 52 0 (upd (q11.2.2.2.2.1 52 0) 0 1))))
noncomputable def mSorrow (b : xH) : Option (Int32 × xH) := (f_M_cellHere (64 + rd b 3) 1 20 b).bind (fun q12 => if q12.1 = 0 then some (0, q12.2) else (f_M_cellHere (44 + rd b 3) 1 40 q12.2).bind (fun q16 => if q16.1 = 0 then some (0, q16.2) else (f_M_cellHere (52 + rd b 3) 0 30 q16.2).bind (fun q20 => if q20.1 = 0 then some (0, q20.2) else some (1, xsA q20.2 52 0 (upd (q20.2.2.2.2.1 52 0) 3 (rd q20.2 3 + 1))))))
noncomputable def mCarr (b : xH) : Option (Int32 × xH) := (f_M_cellHere (60 + rd b 4) 1 60 b).bind (fun q11 => if q11.1 = 0 then some (0, q11.2) else some (1, xsA q11.2 52 0 (upd (q11.2.2.2.2.1 52 0) 4 (rd q11.2 4 + 1))))
noncomputable def cTrug (h9 : xH) : Option xH := (f_TrugReader_readNumber 1 300 h9).bind (fun q13 => (f_TrugReader_readNumber 0 20 (xsI q13.2 8 1 5 q13.1)).bind (fun q17 => some (xsI q17.2 8 2 5 q17.1)))
theorem c_body {a : xH} {w : Int32} : f_TrugReader_readClause_b54 w a = (f_TrugReader_isTooMany w a).bind (fun r3 => if r3 = 0 then (f_Tape_goOn (xsI a 9 2 0 (a.1 9 2 0 + 1))).bind (fun h9 => if w = 12 then cTrug h9 else if w = 0 then (f_TrugReader_readSorrow h9).bind (fun h => some h) else if w = 13 then (f_TrugReader_readUnder h9).bind (fun h => some h) else (f_TrugReader_readCarrier h9).bind (fun h => some h)) else (f_Tape_fail 4 a).bind (fun h => some h)) := rfl
theorem m_trugHere {v : Int32} {h : xH} : f_M_isTrugHere v h = if rd h 0 ≤ 0 then (f_M_passWord h).bind mTrug else (f_M_fails 4 v h).bind nrm := rfl
theorem m_sorrowHere {v : Int32} {h : xH} : f_M_isSorrowHere v h = if rd h 3 = 8 then (f_M_fails 4 v h).bind nrm else (f_M_passWord h).bind mSorrow := rfl
theorem m_carrHere {v : Int32} {h : xH} : f_M_isCarrierHere v h = if rd h 4 = 4 then (f_M_fails 4 v h).bind nrm else (f_M_passWord h).bind mCarr := rfl
theorem m_lineHere {v : Int32} {h : xH} : f_M_trugLineHere v h = (f_M_isWord 1953658215 h).bind (fun q3 => if q3.1 = 0 then (if rd q3.2 0 = 0 then (f_M_fails 4 v q3.2).bind nrm else (f_M_isWord 126922498666359 q3.2).bind (fun q12 => if q12.1 = 0 then (f_M_isWord 504363246962 q12.2).bind (fun q16 => if q16.1 = 0 then (f_M_isCarrierHere v q16.2).bind nrm else (f_M_isUnderHere q16.2).bind nrm) else (f_M_isSorrowHere v q12.2).bind nrm)) else (f_M_isTrugHere v q3.2).bind nrm) := rfl
theorem oc_01 {a b : xH} {t : Nat} {B : Nat → Nat} {r : Int32} (h : oc a b t B r) : r = 0 ∨ r = 1 := by
  rcases h with h | h
  · exact Or.inr h.1
  · exact Or.inl h.1
theorem lk_clause {a b : xH} {t p n m cl : Nat} {B : Nat → Nat} (hs : sy a b t B p) (fa : a.1 7 9 0 = 0) (fb : b.1 12 9 0 = 0) (hd : dD a b n m) (e9 : a.1 9 2 0 = nI cl) (e14 : b.1 12 14 0 = nI cl) (c40 : cl ≤ 40) (e11 : b.1 12 11 0 = 6) (hf : (cl = 0 ∧ rd b 0 = 0) ∨ (1 ≤ cl ∧ rd b 0 = 1)) : ∃ a' r b', f_TrugReader_readClause a = some a' ∧ f_M_clauseHere b = some (r, b') ∧ rcF a a' ∧ rmF b b' ∧ (r = 1 → cl < 40 ∧ a'.1 9 2 0 = nI (cl + 1) ∧ b'.1 12 14 0 = nI (cl + 1) ∧ rd b' 0 = 1) ∧ oc a' b' t B r := by
  obtain ⟨ht, q, hm, hq⟩ := hs
  have pt := tR_le ht
  have t4 := hm.1.2.1
  obtain ⟨v, sc, hv⟩ := c_word ht
  obtain ⟨h, eh⟩ : ∃ h, h = xsI b 12 8 0 (nI p) := ⟨_, rfl⟩
  have hmh : mat h t B p := by rw [eh]; exact mat_s hm pt
  have hp : rn isSB B t p = p := by rw [← hq]; exact rn_id
  have gI : ∀ k, ¬ k = 8 → h.1 12 k 0 = b.1 12 k 0 := fun k z => by rw [eh, rdI (by omega)]
  have s0 : f_M_clauseHere b = (f_M_see b).bind (fun q3 => if q3.2.1 12 11 0 = 6 then f_M_clauseHere_b24 (q3.2.1 12 8 0) 1 q3.2 else f_M_clauseHere_b24 (q3.2.1 12 8 0) 0 q3.2) := rfl
  rw [m_see hm, Option.bind_some, hq, ← eh, gI 11 (by decide), e11, if_pos rfl, hmh.2.1] at s0
  have e24 : f_M_clauseHere_b24 (nI p) 1 h = (if (1 : Int32) = 0 then (f_M_isWord 1818846836 h).bind (fun q9 => if q9.1 = 0 then f_M_clauseHere_b49 (nI p) q9.2 else f_M_clauseHere_b56 (nI p) 1 q9.2) else (f_M_isTrugWord h).bind (fun q33 => if q33.1 = 0 then f_M_clauseHere_b49 (nI p) q33.2 else f_M_clauseHere_b56 (nI p) 1 q33.2)) := rfl
  rw [e24, if_neg i1, m_isTrugWord hmh hp, Option.bind_some] at s0
  have bh : rmF b h := ⟨fun c k i z => by rw [eh, rdI (by omega)], fun f i z => by rw [eh]; rfl⟩
  have h9 : h.1 12 9 0 = 0 := by rw [gI 9 (by decide)]; exact fb
  have eb22 : f_TrugReader_readClause_b22 v a = (if v = 12 then f_TrugReader_readClause_b54 v a else if v = 0 then f_TrugReader_readClause_b54 v a else if v = 13 then f_TrugReader_readClause_b54 v a else if v = 14 then f_TrugReader_readClause_b54 v a else (f_Tape_fail 0 a).bind (fun h38 => some h38)) := rfl
  by_cases W : trW B t p
  · rw [ind_t W, if_neg i1] at s0
    have e56 : f_M_clauseHere_b56 (nI p) 1 h = (if (1 : Int32) = 0 then f_M_clauseHere_b71 (nI p) 1 12 (h.1 12 14 0) h else f_M_clauseHere_b71 (nI p) 1 40 (h.1 12 14 0) h) := rfl
    have e71 : f_M_clauseHere_b71 (nI p) 1 40 (h.1 12 14 0) h = (if h.1 12 14 0 = 40 then (f_M_fails 4 (nI p) h).bind nrm else if (1 : Int32) = 0 then (f_M_isLiftHere (xsI h 12 14 0 (h.1 12 14 0 + 1))).bind nrm else (f_M_trugLineHere (nI p) (xsI h 12 14 0 (h.1 12 14 0 + 1))).bind nrm) := rfl
    rw [e56, if_neg i1, e71, if_neg i1, gI 14 (by decide), e14, nI_1] at s0
    obtain ⟨g, eg⟩ : ∃ g, g = xsI h 12 14 0 (nI (cl + 1)) := ⟨_, rfl⟩
    rw [← eg] at s0
    have gm : mat g t B p := by rw [eg]; exact ⟨mtx_of (rdI (by decide)) rfl hmh.1, by rw [rdI (by decide)]; exact hmh.2.1, pt⟩
    have g9 : g.1 12 9 0 = 0 := by rw [eg, rdI (by decide)]; exact h9
    have g14 : g.1 12 14 0 = nI (cl + 1) := by rw [eg, rdI_s]
    have bg : rmF b g := rmF_t bh ⟨fun c k i z => by rw [eg, rdI (by omega)], fun f i z => by rw [eg]; rfl⟩
    have rg : ∀ k, rd g k = rd b k := fun k => by rw [eg, eh]; rfl
    have hdg : dD a g n m := dD_of (fun _ _ => rfl) (fun _ _ _ => rfl) (fun k _ => rg k) hd
    have n8 : n ≤ 8 := hd.2.2.2.1
    have m4 : m ≤ 4 := hd.2.2.2.2.2.2.1
    have r3 : rd g 3 = nI n := hdg.2.2.1
    have r4 : rd g 4 = nI m := hdg.2.2.2.2.2.1
    have tm : ∀ w, w < 20 → f_TrugReader_isTooMany (nI w) a = some (ind (tmN w cl n m)) := fun w hw => c_many e9 c40 hd.2.1 hd.2.2.2.2.1 n8 m4 hw
    have cls : ∀ w, isWd B t p w → (w = 12 ∨ w = 0 ∨ w = 13 ∨ w = 14) → f_TrugReader_readClause a = f_TrugReader_readClause_b54 (nI w) a := fun w ww hw => by
      have ev : v = nI w := (hv w (by omega)).mpr ww
      rw [sc, eb22, ev]
      rcases hw with rfl | rfl | rfl | rfl
      · rw [if_pos (show nI 12 = 12 by decide)]
      · rw [if_neg (show ¬ nI 0 = 12 by decide), if_pos (show nI 0 = 0 by decide)]
      · rw [if_neg (show ¬ nI 13 = 12 by decide), if_neg (show ¬ nI 13 = 0 by decide), if_pos (show nI 13 = 13 by decide)]
      · rw [if_neg (show ¬ nI 14 = 12 by decide), if_neg (show ¬ nI 14 = 0 by decide), if_neg (show ¬ nI 14 = 13 by decide), if_pos (show nI 14 = 14 by decide)]
    have bad : ∀ w, isWd B t p w → (w = 12 ∨ w = 0 ∨ w = 13 ∨ w = 14) → tmN w cl n m → ∀ b1, rmF b b1 → b1.1 12 9 0 = 0 → f_M_clauseHere b = some (0, xsI b1 12 9 0 (nI (1 + 8 * p + 4))) → ∃ a' r b', f_TrugReader_readClause a = some a' ∧ f_M_clauseHere b = some (r, b') ∧ rcF a a' ∧ rmF b b' ∧ (r = 1 → cl < 40 ∧ a'.1 9 2 0 = nI (cl + 1) ∧ b'.1 12 14 0 = nI (cl + 1) ∧ rd b' 0 = 1) ∧ oc a' b' t B r := fun w ww hw wt b1 g1 z1 eb => by
      obtain ⟨a', ea', f', _, k'⟩ := lk_fail (w := 4) ht fa z1 t4 (by decide)
      refine ⟨a', 0, _, ?_, eb, rcF_p f', rmF_t g1 ⟨fun c k i z => rdI (by omega), fun _ _ _ => rfl⟩, fun z => absurd z (by decide), Or.inr ⟨rfl, k'⟩⟩
      rw [cls w ww hw, c_body, tm w (by omega), Option.bind_some, ind_t wt, if_neg i1, show (4 : Int32) = nI 4 from rfl, ea', Option.bind_some]
    have mf : ∀ b1, b1.1 12 9 0 = 0 → (f_M_fails 4 (nI p) b1).bind nrm = some (0, xsI b1 12 9 0 (nI (1 + 8 * p + 4))) := fun b1 z => by
      rw [show (4 : Int32) = nI 4 from rfl, m_fails, Option.bind_some, nrm_01 (Or.inl rfl), z, flt_0]
    by_cases c4 : cl = 40
    · rw [if_pos (by rw [c4]; decide), mf h h9] at s0
      rcases W with W | W | W | W
      · exact bad 12 W (by omega) (Or.inl c4) h bh h9 s0
      · exact bad 0 W (by omega) (Or.inl c4) h bh h9 s0
      · exact bad 13 W (by omega) (Or.inl c4) h bh h9 s0
      · exact bad 14 W (by omega) (Or.inl c4) h bh h9 s0
    rw [if_neg (show ¬ nI cl = 40 from fun z => c4 ((nI_eq (b := 40) (by omega) (by decide)).mp z)), m_lineHere, m_isW gm hp (by decide) k12, Option.bind_some, rg 0] at s0
    have good : ∀ w, isWd B t p w → (w = 12 ∨ w = 0 ∨ w = 13 ∨ w = 14) → ¬ tmN w cl n m → ∃ a9, f_TrugReader_readClause a = (if nI w = 12 then cTrug a9 else if nI w = 0 then (f_TrugReader_readSorrow a9).bind (fun h => some h) else if nI w = 13 then (f_TrugReader_readUnder a9).bind (fun h => some h) else (f_TrugReader_readCarrier a9).bind (fun h => some h)) ∧ f_M_passWord g = some (xsI g 12 8 0 (nI (rn isLB B t p))) ∧ sy a9 (xsI g 12 8 0 (nI (rn isLB B t p))) t B (nxB B t p) ∧ a9.1 7 9 0 = 0 ∧ dD a9 (xsI g 12 8 0 (nI (rn isLB B t p))) n m ∧ rcF a a9 ∧ a9.1 9 2 0 = nI (cl + 1) := fun w ww hw wt => by
      obtain ⟨a9, x1, x2, x3, x4, x5, x6, x7⟩ := lk_adv ht gm fa g9 hdg (by omega) ww g14
      refine ⟨a9, ?_, x2, x3, x4, x5, x6, x7⟩
      rw [cls w ww hw, c_body, tm w (by omega), Option.bind_some, ind_f wt, if_pos rfl, e9, nI_1, x1, Option.bind_some]
    obtain ⟨k, ek⟩ : ∃ k, k = xsI g 12 8 0 (nI (rn isLB B t p)) := ⟨_, rfl⟩
    rw [← ek] at good
    have k9 : k.1 12 9 0 = 0 := by rw [ek, rdI (by decide)]; exact g9
    have k14 : k.1 12 14 0 = nI (cl + 1) := by rw [ek, rdI (by decide)]; exact g14
    have bk : rmF b k := rmF_t bg ⟨fun c k i z => by rw [ek, rdI (by omega)], fun f i z => by rw [ek]; rfl⟩
    have rk : ∀ j, rd k j = rd b j := fun j => by rw [← rg j, ek]; rfl
    by_cases w12 : isWd B t p 12
    · rw [ind_t w12, if_neg i1, m_trugHere, rg 0] at s0
      rcases hf with ⟨c0, r0⟩ | ⟨c1, r1⟩
      · obtain ⟨a9, x1, x2, x3, x4, x5, x6, x7⟩ := good 12 w12 (by omega) (by unfold tmN; omega)
        obtain ⟨a', r, b', y1, y2, y3, y4, y5, y6, y7, y8⟩ := lk_trug x3 x4 k9 x5
        rw [if_pos (show nI 12 = 12 by decide), show cTrug a9 = some a' from y1] at x1
        rw [r0, if_pos (by decide), x2, Option.bind_some, show mTrug k = some (r, b') from y2, Option.bind_some, nrm_01 (oc_01 y8), Option.bind_some, nrm_01 (oc_01 y8)] at s0
        exact ⟨a', r, b', x1, s0, rcF_t x6 y3, rmF_t bk y4, fun z => ⟨by omega, y5.trans x7, y6.trans k14, y7 z⟩, y8⟩
      · rw [r1, if_neg (by decide), mf g g9, Option.bind_some, nrm_01 (Or.inl rfl), Option.bind_some, nrm_01 (Or.inl rfl)] at s0
        exact bad 12 w12 (by omega) (by unfold tmN; omega) g bg g9 s0
    rw [ind_f w12, if_pos rfl] at s0
    have W' : isWd B t p 0 ∨ isWd B t p 13 ∨ isWd B t p 14 := by
      rcases W with W | W
      · exact absurd W w12
      · exact W
    rcases hf with ⟨c0, r0⟩ | ⟨c1, r1⟩
    · rw [r0, if_pos rfl, mf g g9, Option.bind_some, nrm_01 (Or.inl rfl)] at s0
      rcases W' with W | W | W
      · exact bad 0 W (by omega) (by unfold tmN; omega) g bg g9 s0
      · exact bad 13 W (by omega) (by unfold tmN; omega) g bg g9 s0
      · exact bad 14 W (by omega) (by unfold tmN; omega) g bg g9 s0
    rw [r1, if_neg i1, m_isW gm hp (by decide) k0, Option.bind_some] at s0
    by_cases w0 : isWd B t p 0
    · rw [ind_t w0, if_neg i1, m_sorrowHere, r3] at s0
      by_cases n8' : n = 8
      · rw [if_pos (by rw [n8']; decide), mf g g9, Option.bind_some, nrm_01 (Or.inl rfl), Option.bind_some, nrm_01 (Or.inl rfl)] at s0
        exact bad 0 w0 (by omega) (by unfold tmN; omega) g bg g9 s0
      · obtain ⟨a9, x1, x2, x3, x4, x5, x6, x7⟩ := good 0 w0 (by omega) (by unfold tmN; omega)
        obtain ⟨a', r, b', y1, y2, y3, y4, y5, y6, y7, y8⟩ := lk_sorrow x3 x4 k9 x5 (by omega)
        rw [if_neg (show ¬ nI 0 = 12 by decide), if_pos (show nI 0 = 0 by decide), y1, Option.bind_some] at x1
        rw [if_neg (show ¬ nI n = 8 from fun z => n8' ((nI_eq (b := 8) (by omega) (by decide)).mp z)), x2, Option.bind_some, show mSorrow k = some (r, b') from y2, Option.bind_some, nrm_01 (oc_01 y8), Option.bind_some, nrm_01 (oc_01 y8)] at s0
        exact ⟨a', r, b', x1, s0, rcF_t x6 y3, rmF_t bk y4, fun z => ⟨by omega, y5.trans x7, y6.trans k14, by rw [y7, rk 0]; exact r1⟩, y8⟩
    rw [ind_f w0, if_pos rfl, m_isW gm hp (by decide) k13, Option.bind_some] at s0
    by_cases w13 : isWd B t p 13
    · rw [ind_t w13, if_neg i1, m_under] at s0
      obtain ⟨a9, x1, x2, x3, x4, x5, x6, x7⟩ := good 13 w13 (by omega) (by unfold tmN; omega)
      obtain ⟨a', r, b', y1, y2, y3, y4, y5, y6, y7, y8⟩ := lk_under x3 x4 k9 x5
      rw [if_neg (show ¬ nI 13 = 12 by decide), if_neg (show ¬ nI 13 = 0 by decide), if_pos (show nI 13 = 13 by decide), y1, Option.bind_some] at x1
      rw [x2, Option.bind_some, y2, Option.bind_some, nrm_01 (oc_01 y8), Option.bind_some, nrm_01 (oc_01 y8)] at s0
      exact ⟨a', r, b', x1, s0, rcF_t x6 y3, rmF_t bk y4, fun z => ⟨by omega, y5.trans x7, y6.trans k14, by rw [y7, rk 0]; exact r1⟩, y8⟩
    have w14 : isWd B t p 14 := by
      rcases W' with W | W | W
      · exact absurd W w0
      · exact absurd W w13
      · exact W
    rw [ind_f w13, if_pos rfl, m_carrHere, r4] at s0
    by_cases m4' : m = 4
    · rw [if_pos (by rw [m4']; decide), mf g g9, Option.bind_some, nrm_01 (Or.inl rfl), Option.bind_some, nrm_01 (Or.inl rfl)] at s0
      exact bad 14 w14 (by omega) (by unfold tmN; omega) g bg g9 s0
    · obtain ⟨a9, x1, x2, x3, x4, x5, x6, x7⟩ := good 14 w14 (by omega) (by unfold tmN; omega)
      obtain ⟨a', r, b', y1, y2, y3, y4, y5, y6, y7, y8⟩ := lk_carrier x3 x4 k9 x5 (by omega)
      rw [if_neg (show ¬ nI 14 = 12 by decide), if_neg (show ¬ nI 14 = 0 by decide), if_neg (show ¬ nI 14 = 13 by decide), y1, Option.bind_some] at x1
      rw [if_neg (show ¬ nI m = 4 from fun z => m4' ((nI_eq (b := 4) (by omega) (by decide)).mp z)), x2, Option.bind_some, show mCarr k = some (r, b') from y2, Option.bind_some, nrm_01 (oc_01 y8), Option.bind_some, nrm_01 (oc_01 y8)] at s0
      exact ⟨a', r, b', x1, s0, rcF_t x6 y3, rmF_t bk y4, fun z => ⟨by omega, y5.trans x7, y6.trans k14, by rw [y7, rk 0]; exact r1⟩, y8⟩
  · have e49 : f_M_clauseHere_b49 (nI p) h = (f_M_fails 0 (nI p) h).bind nrm := rfl
    obtain ⟨a', ea', f', mf, k'⟩ := lk_fail (w := 0) ht fa h9 t4 (by decide)
    have mf : f_M_fails 0 (nI p) h = some (0, xsI h 12 9 0 (nI (1 + 8 * p + 0))) := mf
    rw [ind_f W, if_pos rfl, e49, mf, Option.bind_some, nrm_01 (Or.inl rfl)] at s0
    refine ⟨a', 0, _, ?_, s0, rcF_p f', rmF_t bh ⟨fun c k i z => rdI (by omega), fun _ _ _ => rfl⟩, fun z => absurd z (by decide), Or.inr ⟨rfl, k'⟩⟩
    rw [sc, eb22, if_neg (show ¬ v = 12 from fun z => W (Or.inl ((hv 12 (by decide)).mp z))), if_neg (show ¬ v = 0 from fun z => W (Or.inr (Or.inl ((hv 0 (by decide)).mp z)))), if_neg (show ¬ v = 13 from fun z => W (Or.inr (Or.inr (Or.inl ((hv 13 (by decide)).mp z))))), if_neg (show ¬ v = 14 from fun z => W (Or.inr (Or.inr (Or.inr ((hv 14 (by decide)).mp z))))), show f_Tape_fail 0 a = some a' from ea', Option.bind_some]
