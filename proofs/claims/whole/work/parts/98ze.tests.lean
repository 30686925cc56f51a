/-! PURE: rule: tests, both sides -/
theorem gq_w {t R x y : Nat} {B : Nat → Nat} {E E' : Nat → Prop} {a b a' : xH} {X : Option (Int32 × xH)} {L C k p d : Nat} {S : List Nat} (hs : str y ≤ str x) (hE : ∀ q, E q → E' q) (h : gq t B R x E a b a' X L C k p d S) : gq t B R y E' a b a' X L C k p d S := by
  rcases h with ⟨u1, b3, l3, π3, k3, p3, u2, u3, u4, u5, u6, u7, u8, u9, u10, u11, u12, u13⟩ | h
  · exact Or.inl ⟨u1, b3, l3, π3, k3, p3, u2, u3, u4, u5, u6, u7, u8, u9, u10, fun z hz => ⟨(u11 z hz).1, Nat.le_trans hs (u11 z hz).2⟩, u12, hE p3 u13⟩
  · exact Or.inr h
theorem seqx {t R x w v : Nat} {B : Nat → Nat} {E : Nat → Prop} {cb : Int32 → xH → Option xH} (hxw : (x = 12 ∧ w = 18) ∨ (x = 13 ∧ w = 17)) (U : SUBx t B R x E v cb) {a b : xH} {p L C k : Nat} {S : List Nat} (hs : sy a b t B p) (fa : a.1 7 9 0 = 0) (fb : b.1 12 9 0 = 0) (hz : rz a b R L C k) (hL : L ≤ p) (hSp : S.length ≤ p) (ht : tz b v S) (hS : ∀ y T, S = y :: T → str y < str x) : ∃ a', (cb (nI v) a).bind (fun h3 => whl (stp (nI w) (nI (cN (x, 0))) cb (nI v)) (0, h3)) = some a' ∧ sfC R a a' ∧ gq t B R x (fun q => E q ∧ ¬ isWd B t q w) a b a' (mF b) L C k p v S := by
  obtain ⟨a1, ea1, f1, o⟩ := U a b p L C k S hs fa fb hz hL hSp ht (fun y T e => Nat.le_of_lt (hS y T e))
  rw [ea1, Option.bind_some]
  rcases o with ⟨u1, b3, l3, π3, k3, p3, u2, u3, u4, u5, u6, u7, u8, u9, u10, u11, u12, u13⟩ | ⟨b3, u1, u2, u3⟩
  · rw [u2]
    exact chain hxw U S hS (t - p3) 0 a b a1 b3 p p3 L C k k3 l3 π3 (Nat.le_refl _) (Nat.zero_le _) f1 u1 u3 hz hL u4 u5 u6 u7 u8 u9 u10 u11 u12 u13
  · refine ⟨a1, whl_en ?_, f1, Or.inr ⟨b3, u1, u2, u3⟩⟩
    unfold stp
    rw [c_well, Option.bind_some, if_neg u2.2.2, if_pos rfl]
    split <;> rfl
theorem F_sub {t R n v : Nat} {B : Nat → Nat} (F : FACT t B R n) (hn : 11 ≤ n + v) (hv : v ≤ 10) : SUBx t B R 12 (fun _ => True) v (f_RuleReader_rF n) := fun a b p L C k S hs fa fb hz hL hSp ht _ => by
  obtain ⟨a', ea, f1, o⟩ := F v a b p L C k S hn hv hs fa fb hz hL hSp ht
  refine ⟨a', ea, f1, ?_⟩
  rcases o with ⟨u1, b3, l3, k3, p3, u2, u3, ⟨v1, v2, v3⟩, u5, u6, u7, u8, u9, u10⟩ | h
  · exact Or.inl ⟨u1, b3, l3, [], k3, p3, u2, u3, ⟨by rw [show l3 ++ tk0 [] = l3 from List.append_nil l3]; exact v1, v2, v3⟩, by show l3.length + 0 + p ≤ p3; omega, u6, u7, by rw [show l3 ++ tk0 [] = l3 from List.append_nil l3]; exact u8, u9, u10, fun y hy => by (cases hy), by show 0 + S.length ≤ p3; omega, trivial⟩
  · exact Or.inr h
theorem P_sub {t R n v : Nat} {B : Nat → Nat} (F : FACT t B R n) (hn : 11 ≤ n + v) (hv : v ≤ 10) : SUBx t B R 13 (fun q => ¬ isWd B t q 18) v (f_RuleReader_readPart (f_RuleReader_rF n)) := fun a b p L C k S hs fa fb hz hL hSp ht hS => by
  obtain ⟨a', ea, f1, o⟩ := seqx (x := 12) (w := 18) (Or.inl ⟨rfl, rfl⟩) (F_sub F hn hv) hs fa fb hz hL hSp ht (fun y T e => Nat.lt_of_le_of_lt (hS y T e) (by decide))
  exact ⟨a', ea, f1, gq_w (by decide) (fun q h => h.2) o⟩
theorem TEST_n {t R n : Nat} {B : Nat → Nat} (F : FACT t B R n) : TEST t B R n := fun v a b p L C k S hn hv hs fa fb hz hL hSp ht hS => by
  obtain ⟨a', ea, f1, o⟩ := seqx (x := 13) (w := 17) (Or.inr ⟨rfl, rfl⟩) (P_sub F hn hv) hs fa fb hz hL hSp ht (fun y T e => by rw [hS y T e]; decide)
  refine ⟨a', ea, f1, ?_⟩
  rcases o with ⟨u1, b3, l3, π3, k3, p3, u2, u3, u4, u5, u6, u7, u8, u9, u10, u11, u12, u13⟩ | h
  · exact Or.inl ⟨u1, b3, l3, π3, k3, p3, u2, u3, u4, u5, u6, u7, u8, u9, u10, fun y hy => (u11 y hy).1, u12, u13.2, u13.1⟩
  · exact Or.inr h
theorem FACT_n {t R : Nat} {B : Nat → Nat} : ∀ n, FACT t B R n
  | 0 => FACT_0
  | n + 1 => FACT_s (FACT_n n) (TEST_n (FACT_n n))
/-- the test of a clause -/
theorem lk_test {t R p L C k : Nat} {B : Nat → Nat} {a b : xH} (hs : sy a b t B p) (fa : a.1 7 9 0 = 0) (fb : b.1 12 9 0 = 0) (hz : rz a b R L C k) (hL : L ≤ p) : ∃ a' r b', f_RuleReader_rT 0 a = some a' ∧ f_M_tested b = some (r, b') ∧ sfC R a a' ∧ tfM R b b' ∧ ot a b a' b' t B R L C k p r := by
  obtain ⟨h, eh⟩ : ∃ h, h = xsI (xsI b 12 16 0 0) 12 13 0 0 := ⟨_, rfl⟩
  have s0 : f_M_tested b = mF h := by rw [← m_T, eh]; rfl
  have hI : ∀ k, ¬ (k = 13 ∨ k = 16) → h.1 12 k 0 = b.1 12 k 0 := fun k z => by rw [eh, rdI (by omega), rdI (by omega)]
  have fh : tfM R b h := by rw [eh]; exact tfM_t (tfM_I (by omega)) (tfM_I (by omega))
  obtain ⟨tt, q, hm, hq⟩ := id hs
  have mh : mat h t B q := mat_k fh hI hm
  have zh : tz h 0 [] := ⟨by rw [eh, rdI (by decide), rdI_s]; rfl, by rw [eh, rdI_s]; rfl, trivial, fun x hx => by (cases hx), by decide⟩
  obtain ⟨a', ea, f1, o⟩ := TEST_n (FACT_n (t := t) (R := R) (B := B) 14) 0 a h p L C k [] (by decide) (by decide) ⟨tt, q, mh, hq⟩ fa (by rw [hI 9 (by decide)]; exact fb) (rz_of hz rfl (fun _ => rfl) rfl (hI 11 (by decide)) (hI 12 (by decide)) (by rw [eh]; rfl)) hL (Nat.zero_le _) zh (fun x T e => by cases e)
  have ea : f_RuleReader_rT 0 a = some a' := ea
  rcases o with ⟨u1, b3, l, π, k', p', u2, u3, ⟨v1, v2, v3, v4, v5, v6⟩, u5, u6, u7, u8, u9, u10, u11, u12, n17, n18⟩ | ⟨b3, u1, u2, u3⟩
  · obtain ⟨tt', q', mm, hq'⟩ := id u7
    have pt' := tR_le tt'
    have t4 := hm.1.2.1
    have hp' : rn isSB B t p' = p' := by rw [← hq']; exact rn_id
    rw [List.append_nil] at u9
    have l4 : π.length ≤ 400 := by have u12 : π.length + 0 ≤ p' := u12; omega
    have CL : C ≤ L := hz.2.2.2.2.2.2.2.2
    have gs := m_Gstop u9 l4 (fun T e => by
      have := u11 11 (by rw [e]; exact List.mem_cons_self ..)
      omega)
    have n91 : ¬ 91 ∈ π := fun z => by have := u11 91 z; omega
    have cn := m_ClNo mm hq' u9 l4 (fun z => n91 z.2.2)
    obtain ⟨g, eg⟩ : ∃ g, g = xsI b3 12 8 0 (nI p') := ⟨_, rfl⟩
    rw [← eg] at cn
    have mg : mat g t B p' := by rw [eg]; exact mat_s mm pt'
    have gI : ∀ k, ¬ k = 8 → g.1 12 k 0 = b3.1 12 k 0 := fun k z => by rw [eg, rdI (by omega)]
    obtain ⟨b4, e4, z4, m4, f4, k4⟩ := m_b112o (R := R) (C := C + l.length) (b := g) (by rw [eg]; exact tz_of (rdI (by decide)) (rdI (by decide)) rfl u9) u11 l4 hz.2.1 (by rw [gI 11 (by decide), u10.1 12 11 0 (by omega), hI 11 (by decide)]; exact hz.2.2.2.1) (by rw [eg]; exact v2.1) (by omega)
    have am : apM b b4 R C (l ++ tk0 π) := apM_t (l := l) (b := b3) ⟨v2.1, fun j hj => by rw [v2.2.1 j hj, eh]; rfl, v2.2.2⟩ ⟨m4.1, fun j hj => by rw [m4.2.1 j hj, eg]; rfl, m4.2.2⟩
    refine ⟨a', 1, b4, ea, by rw [s0, u2, gs, cn, m_K2no mg hp' n18 n17]; exact e4, f1, tfM_t fh (tfM_t u10 (tfM_t (show tfM R b3 g by rw [eg]; exact tfM_I (by omega)) f4)), Or.inl ⟨rfl, u1, by rw [k4 9 (by decide), gI 9 (by decide)]; exact u3, l ++ tk0 π, k', p', ⟨v1, am, v3, by rw [k4 12 (by decide), gI 12 (by decide)]; exact v4, v5, by rw [np_a, np_tk0 u11]; omega⟩, by rw [List.length_append, tk0_len]; omega, u6, ⟨tt', p', mat_k f4 k4 mg, hp'⟩, u8⟩⟩
  · exact ⟨a', 0, b3, ea, by rw [s0]; exact u1, f1, tfM_t fh u3, Or.inr ⟨rfl, u2⟩⟩
