/-! PURE: a clause of a trug -/
theorem xsI_ide {h : xH} {c k i : Nat} {v : Int32} (e : h.1 c k i = v) : xsI h c k i v = h := by
  refine Prod.ext (funext fun x => funext fun y => funext fun z => ?_) rfl
  by_cases w : x = c ∧ y = k ∧ z = i
  · obtain ⟨rfl, rfl, rfl⟩ := w
    rw [rdI_s, e]
  · exact rdI_3 w
theorem m_isW {h : xH} {t p i : Nat} {B : Nat → Nat} {c : Int64} (hm : mat h t B p) (hp : rn isSB B t p = p) (hi : i < 20) (hc : c = lN (pkW i)) : f_M_isWord c h = some (ind (isWd B t p i), h) := by
  rw [m_isWord hm hi hc, hp, xsI_ide hm.2.1]
theorem k12 : (1953658215 : Int64) = lN (pkW 12) := by decide +kernel
theorem k0 : (126922498666359 : Int64) = lN (pkW 0) := by decide +kernel
theorem k13 : (504363246962 : Int64) = lN (pkW 13) := by decide +kernel
theorem k14 : (27973166868030834 : Int64) = lN (pkW 14) := by decide +kernel
def trW (B : Nat → Nat) (t p : Nat) : Prop := isWd B t p 12 ∨ isWd B t p 0 ∨ isWd B t p 13 ∨ isWd B t p 14
theorem m_isTrugWord {h : xH} {t p : Nat} {B : Nat → Nat} (hm : mat h t B p) (hp : rn isSB B t p = p) : f_M_isTrugWord h = some (ind (trW B t p), h) := by
  have s0 : f_M_isTrugWord h = (f_M_isWord 1953658215 h).bind (fun q3 => if q3.1 = 0 then (f_M_isWord 126922498666359 q3.2).bind (fun q7 => if q7.1 = 0 then (f_M_isWord 504363246962 q7.2).bind (fun q11 => if q11.1 = 0 then (f_M_isWord 27973166868030834 q11.2).bind (fun q15 => if q15.1 = 0 then some (0, q15.2) else some (1, q15.2)) else some (1, q11.2)) else some (1, q7.2)) else some (1, q3.2)) := rfl
  rw [s0, m_isW hm hp (by decide) k12, Option.bind_some]
  by_cases w1 : isWd B t p 12
  · rw [ind_t w1, if_neg i1, ind_t (show trW B t p from Or.inl w1)]
  rw [ind_f w1, if_pos rfl, m_isW hm hp (by decide) k0, Option.bind_some]
  by_cases w2 : isWd B t p 0
  · rw [ind_t w2, if_neg i1, ind_t (show trW B t p from Or.inr (Or.inl w2))]
  rw [ind_f w2, if_pos rfl, m_isW hm hp (by decide) k13, Option.bind_some]
  by_cases w3 : isWd B t p 13
  · rw [ind_t w3, if_neg i1, ind_t (show trW B t p from Or.inr (Or.inr (Or.inl w3)))]
  rw [ind_f w3, if_pos rfl, m_isW hm hp (by decide) k14, Option.bind_some]
  by_cases w4 : isWd B t p 14
  · rw [ind_t w4, if_neg i1, ind_t (show trW B t p from Or.inr (Or.inr (Or.inr w4)))]
  rw [ind_f w4, if_pos rfl, ind_f (show ¬ trW B t p from fun z => by rcases z with z | z | z | z <;> contradiction)]
theorem c_word {a : xH} {t p : Nat} {B : Nat → Nat} (ht : tR a t B p) : ∃ v : Int32, f_TrugReader_readClause a = f_TrugReader_readClause_b22 v a ∧ ∀ i, i < 20 → (v = nI i ↔ isWd B t p i) := by
  have s0 : f_TrugReader_readClause a = if a.1 7 7 0 = 1 then f_TrugReader_readClause_b22 (a.1 7 8 0) a else f_TrugReader_readClause_b22 (-1) a := rfl
  have s1 : ∀ i, f_Tape_isWord i a = (if a.1 7 7 0 = 1 then (if a.1 7 8 0 = i then some 1 else some 0) else some 0) := fun _ => rfl
  by_cases k : a.1 7 7 0 = 1
  · refine ⟨a.1 7 8 0, by rw [s0, if_pos k], fun i hi => ?_⟩
    have e := c_isWordT ht hi
    rw [s1, if_pos k] at e
    by_cases w : isWd B t p i
    · refine ⟨fun _ => w, fun _ => ?_⟩
      by_cases z : a.1 7 8 0 = nI i
      · exact z
      · rw [if_neg z, ind_t w] at e
        exact absurd e (by decide)
    · refine ⟨fun z => ?_, fun z => absurd z w⟩
      rw [if_pos z, ind_f w] at e
      exact absurd e (by decide)
  · refine ⟨-1, by rw [s0, if_neg k], fun i hi => ⟨fun z => absurd z.symm (nI_nm1 (by omega)), fun w => ?_⟩⟩
    have e := c_isWordT ht hi
    rw [s1, if_neg k, ind_t w] at e
    exact absurd e (by decide)
theorem wd_1 {B : Nat → Nat} {t p i j : Nat} (hi : i < 20) (hj : j < 20) (a : isWd B t p i) (n : i ≠ j) : ¬ isWd B t p j := fun b => n (eqw_u hi hj a b)
/-- too many, or not the first -/
def tmN (v cl n m : Nat) : Prop := cl = 40 ∨ (v = 12 ∧ ¬ cl = 0) ∨ (¬ v = 12 ∧ cl = 0) ∨ (v = 0 ∧ n = 8) ∨ (v = 14 ∧ m = 4)
theorem c_many {a : xH} {v cl n m : Nat} (e9 : a.1 9 2 0 = nI cl) (c40 : cl ≤ 40) (en : a.1 8 3 5 = nI n) (em : a.1 8 4 5 = nI m) (n8 : n ≤ 8) (m4 : m ≤ 4) (hv : v < 20) : f_TrugReader_isTooMany (nI v) a = some (ind (tmN v cl n m)) := by
  have e0 : f_TrugReader_isTooMany (nI v) a = (if (40 : Int32) ≤ a.1 9 2 0 then some 1 else if nI v = 12 then f_TrugReader_isTooMany_b20 (nI v) 1 a else f_TrugReader_isTooMany_b20 (nI v) 0 a) := rfl
  have e1 : ∀ t0, f_TrugReader_isTooMany_b20 (nI v) t0 a = (if a.1 9 2 0 = 0 then f_TrugReader_isTooMany_b32 (nI v) 1 t0 a else f_TrugReader_isTooMany_b32 (nI v) 0 t0 a) := fun _ => rfl
  have e2 : ∀ t0 t1, f_TrugReader_isTooMany_b32 (nI v) t0 t1 a = (if t1 = t0 then (if nI v = 0 then (if (8 : Int32) ≤ a.1 8 3 5 then some 1 else f_TrugReader_isTooMany_b53 (nI v) a) else f_TrugReader_isTooMany_b53 (nI v) a) else some 1) := fun _ _ => rfl
  have e3 : f_TrugReader_isTooMany_b53 (nI v) a = (if nI v = 14 then (if a.1 8 4 5 < 4 then some 0 else some 1) else some 0) := rfl
  have v12 : nI v = 12 ↔ v = 12 := nI_eq (b := 12) (by omega) (by decide)
  have v14 : nI v = 14 ↔ v = 14 := nI_eq (b := 14) (by omega) (by decide)
  have v0 : nI v = 0 ↔ v = 0 := nI_eq (b := 0) (by omega) (by decide)
  have c0 : nI cl = 0 ↔ cl = 0 := nI_eq (b := 0) (by omega) (by decide)
  rw [e0, e9]
  by_cases z : cl = 40
  · rw [if_pos (by rw [z]; decide), ind_t (show tmN v cl n m from Or.inl z)]
  rw [if_neg (show ¬ (40 : Int32) ≤ nI cl from nI_ge (b := 40) (by omega) (by decide))]
  by_cases w : v = 12
  · rw [if_pos (v12.mpr w), e1, e9]
    by_cases y : cl = 0
    · rw [if_pos (c0.mpr y), e2, if_pos rfl, if_neg (fun u => by have := v0.mp u; omega), e3, if_neg (fun u => by have := v14.mp u; omega), ind_f (show ¬ tmN v cl n m by unfold tmN; omega)]
    · rw [if_neg (fun u => y (c0.mp u)), e2, if_neg (by decide), ind_t (show tmN v cl n m by unfold tmN; omega)]
  · rw [if_neg (fun u => w (v12.mp u)), e1, e9]
    by_cases y : cl = 0
    · rw [if_pos (c0.mpr y), e2, if_neg (by decide), ind_t (show tmN v cl n m by unfold tmN; omega)]
    · rw [if_neg (fun u => y (c0.mp u)), e2, if_pos rfl]
      by_cases y0 : v = 0
      · rw [if_pos (v0.mpr y0), en]
        by_cases x : n = 8
        · rw [if_pos (by rw [x]; decide), ind_t (show tmN v cl n m by unfold tmN; omega)]
        · rw [if_neg (show ¬ (8 : Int32) ≤ nI n from nI_ge (b := 8) (by omega) (by decide)), e3, if_neg (fun u => by have := v14.mp u; omega), ind_f (show ¬ tmN v cl n m by unfold tmN; omega)]
      · rw [if_neg (fun u => y0 (v0.mp u)), e3]
        by_cases y4 : v = 14
        · rw [if_pos (v14.mpr y4), em]
          by_cases x : m = 4
          · rw [if_neg (by rw [x]; decide), ind_t (show tmN v cl n m by unfold tmN; omega)]
          · rw [if_pos (show nI m < 4 from nI_lt (b := 4) (by omega) (by decide)), ind_f (show ¬ tmN v cl n m by unfold tmN; omega)]
        · rw [if_neg (fun u => y4 (v14.mp u)), ind_f (show ¬ tmN v cl n m by unfold tmN; omega)]
theorem lk_fail {a b : xH} {t p w : Nat} {B : Nat → Nat} (ht : tR a t B p) (fa : a.1 7 9 0 = 0) (fb : b.1 12 9 0 = 0) (t4 : t ≤ 400) (hw : w ≤ 7) : ∃ a', f_Tape_fail (nI w) a = some a' ∧ tpF a a' ∧ f_M_fails (nI w) (nI p) b = some (0, xsI b 12 9 0 (nI (1 + 8 * p + w))) ∧ fk a' (xsI b 12 9 0 (nI (1 + 8 * p + w))) t B := by
  have pt := tR_le ht
  obtain ⟨a4, ea4, t4', f4, w4, _, _⟩ := c_failT (w := w) ht
  rw [fa, if_pos rfl] at w4
  refine ⟨a4, ea4, f4, by rw [m_fails, fb, flt_0], ⟨p, t4'⟩, by rw [w4, rdI_s], ?_⟩
  rw [w4]
  exact flt_ne (by omega) hw
/-- both go behind the word -/
theorem lk_adv {a h : xH} {t p i n m c : Nat} {B : Nat → Nat} (ht : tR a t B p) (hm : mat h t B p) (fa : a.1 7 9 0 = 0) (fb : h.1 12 9 0 = 0) (hd : dD a h n m) (hi : i < 20) (hw : isWd B t p i) (e14 : h.1 12 14 0 = nI c) : ∃ a9, f_Tape_goOn (xsI a 9 2 0 (nI c)) = some a9 ∧ f_M_passWord h = some (xsI h 12 8 0 (nI (rn isLB B t p))) ∧ sy a9 (xsI h 12 8 0 (nI (rn isLB B t p))) t B (nxB B t p) ∧ a9.1 7 9 0 = 0 ∧ dD a9 (xsI h 12 8 0 (nI (rn isLB B t p))) n m ∧ rcF a a9 ∧ a9.1 9 2 0 = nI c := by
  have t1 : tR (xsI a 9 2 0 (nI c)) t B p := tR_of (fun _ => rdI (by omega)) (fun _ _ _ => rfl) ht
  obtain ⟨a9, ea9, t9, f9, w9⟩ := c_goOnT t1
  have pt := tR_le ht
  refine ⟨a9, ea9, m_passWord hm, ⟨t9, _, mat_s hm (rn_le p pt), nx_word (wd_l hi hw)⟩, by rw [w9, rdI (by decide)]; exact fa, dD_of (fun k _ => by rw [f9.1 8 k 5 (by omega), rdI (by omega)]) (fun f _ _ => by rw [f9.2 f 5 (by omega)]; rfl) (fun _ _ => rfl) hd, ⟨fun c k i p' q' r' => by rw [f9.1 c k i p', rdI (by omega)], fun f i p' _ => by rw [f9.2 f i p']; rfl⟩, by rw [f9.1 9 2 0 (by decide), rdI_s]⟩
