/-! PURE: a trug read to its end, both sides -/
def rmG (b b' : xH) : Prop := (∀ c k i, ¬ (c = 12 ∧ (k = 1 ∨ (8 ≤ k ∧ k ≤ 10) ∨ k = 14)) → b'.1 c k i = b.1 c k i) ∧ ∀ f i, ¬ (f = 52 ∧ i = 0) → b'.2.2.2.1 f i = b.2.2.2.1 f i
theorem rmG_t {a b c : xH} (x : rmG a b) (y : rmG b c) : rmG a c := ⟨fun d k i p => (y.1 d k i p).trans (x.1 d k i p), fun f i p => (y.2 f i p).trans (x.2 f i p)⟩
theorem rmG_f {a b : xH} (x : rmF a b) : rmG a b := ⟨fun d k i p => x.1 d k i (by omega), x.2⟩
theorem rmG_I {b : xH} {k : Nat} {v : Int32} (h : k = 1 ∨ (8 ≤ k ∧ k ≤ 10) ∨ k = 14) : rmG b (xsI b 12 k 0 v) := ⟨fun _ _ _ p => rdI (by omega), fun _ _ _ => rfl⟩
theorem c_toClause {h : xH} : f_Tape_goToClause h = (f_Tape_isWell h).bind (fun r1 => if r1 = 0 then some (0, h) else (f_Tape_isSign 59 h).bind (fun r4 => if r4 = 0 then (if h.1 7 7 0 = 0 then some (0, h) else (f_Tape_fail 0 h).bind (fun h10 => some (0, h10))) else (f_Tape_goOn h).bind (fun h13 => some (1, h13)))) := rfl
theorem m_b88 {h : xH} : f_M_readsAll_b88 h = (if (xsI h 12 1 0 0).1 12 9 0 = 0 then some (1, xsI h 12 1 0 0) else some (0, xsI h 12 1 0 0)) := rfl
theorem m_l35_0 {h : xH} : f_M_readsAll_l35 0 h = f_M_readsAll_b88 h := by
  refine whl_up (X := f_M_readsAll_b88 h) ?_
  show (if (0 : Int32) = 0 then xup (if (0 : Int32) = 0 then f_M_readsAll_b88 h else (f_M_see h).bind (fun q16 => if q16.1 = -1 then f_M_readsAll_b88 q16.2 else (f_M_fails 0 (q16.2.1 12 8 0) q16.2).bind (fun q20 => f_M_readsAll_b88 q20.2))) else _) = _
  rw [if_pos rfl, if_pos rfl]
theorem c_l31_0 {v : Int32} {h : xH} : f_TrugReader_readAll_l31 0 v h = some (h.1 7 9 0, h) := by
  refine whl_up (X := some (h.1 7 9 0, h)) ?_
  show (if (40 : Int32) < v then xup (some (h.1 7 9 0, h)) else if (0 : Int32) = 0 then xup (some (h.1 7 9 0, h)) else _) = _
  rw [if_pos rfl]
  split <;> rfl
theorem lk_all : ∀ k cl, cl + k = 41 → cl ≤ 40 → ∀ (a b : xH) (t p n m : Nat) (B : Nat → Nat), sy a b t B p → a.1 7 9 0 = 0 → b.1 12 9 0 = 0 → dD a b n m → a.1 9 2 0 = nI cl → b.1 12 14 0 = nI cl → b.1 12 11 0 = 6 → ((cl = 0 ∧ rd b 0 = 0) ∨ (1 ≤ cl ∧ rd b 0 = 1)) → ∃ f a' b' q, f_TrugReader_readAll_l31 1 (nI cl) a = some (f, a') ∧ f_M_clauseHere b = some q ∧ f_M_readsAll_l35 q.1 q.2 = some (if f = 0 then 1 else 0, b') ∧ b'.1 12 9 0 = f ∧ rcF a a' ∧ rmG b b' ∧ b'.1 12 1 0 = 0 ∧ (f = 0 → ∃ n m, dD a' b' n m ∧ rd b' 0 = 1)
  | 0, cl, hk, hc => by omega
  | k + 1, cl, hk, c40 => fun a b t p n m B hs fa fb hd e9 e14 e11 hf => by
    obtain ⟨a1, r, b1, ea1, eb1, f1, g1, hr, ho⟩ := lk_clause hs fa fb hd e9 e14 c40 e11 hf
    have t4 : t ≤ 400 := by obtain ⟨_, q, hm, _⟩ := hs; exact hm.1.2.1
    have st : ∀ x a2, f_Tape_goToClause a1 = some (x, a2) → f_TrugReader_readAll_l31 1 (nI cl) a = f_TrugReader_readAll_l31 x (nI (cl + 1)) a2 := fun x a2 e => by
      refine whl_st (s' := (x, nI (cl + 1), a2)) ?_
      show (if (40 : Int32) < nI cl then _ else if (1 : Int32) = 0 then _ else (f_TrugReader_readClause a).bind (fun h13 => (f_Tape_goToClause h13).bind (fun q16 => some (Sum.inl (q16.1, nI cl + 1, q16.2))))) = _
      rw [if_neg (show ¬ (40 : Int32) < nI cl from nI_nlt (a := 40) c40 (by decide)), if_neg i1, ea1, Option.bind_some, e, Option.bind_some, nI_1]
    rcases ho with ⟨rfl, fa1, fb1, p1, n1, m1, s1, d1⟩ | ⟨rfl, fk1⟩
    · obtain ⟨c39, x9, x14, x0⟩ := hr rfl
      obtain ⟨ht, q, hm, hq⟩ := id s1
      have pt := tR_le ht
      obtain ⟨b2, eb2⟩ : ∃ b2, b2 = xsI b1 12 8 0 (nI p1) := ⟨_, rfl⟩
      have m2 : mat b2 t B p1 := by rw [eb2]; exact mat_s hm pt
      have hp : rn isSB B t p1 = p1 := by rw [← hq]; exact rn_id
      have g2 : rmG b b2 := rmG_t (rmG_f g1) (by rw [eb2]; exact rmG_I (by omega))
      have b29 : b2.1 12 9 0 = 0 := by rw [eb2, rdI (by decide)]; exact fb1
      have see2 : f_M_see b1 = some (cdB B t p1, b2) := by rw [m_see hm, hq, eb2]
      have see3 : f_M_see b2 = some (cdB B t p1, b2) := by rw [m_see m2, hp, xsI_ide m2.2.1]
      have c1 := c_toClause (h := a1)
      have c59 := c_isSignT (s := 59) ht (by decide) (by decide) (by decide)
      rw [c_well, Option.bind_some, if_pos fa1, if_neg i1, show (59 : Int32) = nI 59 from rfl, c59, Option.bind_some] at c1
      have d2 : dD a1 b2 n1 m1 := dD_of (fun _ _ => rfl) (fun _ _ _ => rfl) (fun k _ => by rw [eb2]; rfl) d1
      have x02 : rd b2 0 = 1 := by rw [eb2]; exact x0
      by_cases S : p1 < t ∧ B p1 = 59
      · have nw : ¬ weqB B t p1 = true := fun z => by
          unfold weqB at z
          rw [S.2, Bool.and_eq_true] at z
          exact absurd z.1 (by decide)
        have nx : rn isSB B t (p1 + 1) = nxB B t p1 := nx_sign S.1 (by rw [S.2]; decide) (by rw [S.2]; decide) nw
        obtain ⟨a3, ea3, t3, f3, w3⟩ := c_goOnT ht
        rw [if_pos (show p1 < t ∧ B p1 = 59 ∧ ¬ weqB B t p1 = true from ⟨S.1, S.2, nw⟩), if_neg i1, ea3, Option.bind_some] at c1
        obtain ⟨b3, eb3⟩ : ∃ b3, b3 = xsI b2 12 8 0 (nI (p1 + 1)) := ⟨_, rfl⟩
        have m3 : mat b3 t B (p1 + 1) := by rw [eb3]; exact mat_s m2 (by omega)
        have g3 : rmG b b3 := rmG_t g2 (by rw [eb3]; exact rmG_I (by omega))
        have b3I : ∀ k, ¬ k = 8 → b3.1 12 k 0 = b1.1 12 k 0 := fun k z => by rw [eb3, rdI (by omega), eb2, rdI (by omega)]
        have f3' : rcF a1 a3 := rcF_p f3
        obtain ⟨f, a', b', q', y1, y2, y3, y4, y5, y6, y7, y8⟩ := lk_all k (cl + 1) (by omega) (by omega) a3 b3 t (nxB B t p1) n1 m1 B ⟨t3, p1 + 1, m3, nx⟩ (w3.trans fa1) (by rw [b3I 9 (by decide)]; exact fb1) (dD_of (fun k _ => f3.1 8 k 5 (by omega)) (fun f _ _ => f3.2 f 5 (by omega)) (fun k _ => by rw [eb3]; rfl) d2) (by rw [f3.1 9 2 0 (by decide)]; exact x9) (by rw [b3I 14 (by decide)]; exact x14) (by rw [b3I 11 (by decide), g1.1 12 11 0 (by omega)]; exact e11) (Or.inr ⟨by omega, by rw [eb3]; exact x02⟩)
        refine ⟨f, a', b', (1, b1), by rw [st 1 a3 c1]; exact y1, eb1, ?_, y4, rcF_t (rcF_t f1 f3') y5, rmG_t g3 y6, y7, y8⟩
        have e35 : f_M_readsAll_l35 1 b1 = f_M_readsAll_l35 q'.1 q'.2 := by
          refine whl_st (s' := (q'.1, q'.2)) ?_
          show (if (1 : Int32) = 0 then _ else (f_M_see b1).bind (fun q23 => if q23.1 = 59 then (f_M_clauseHere (xsI q23.2 12 8 0 (q23.2.1 12 8 0 + 1))).bind (fun q28 => some (Sum.inl (q28.1, q28.2))) else xup (f_M_readsAll_b66 1 q23.2))) = _
          rw [if_neg i1, see2, Option.bind_some, if_pos (show cdB B t p1 = 59 by unfold cdB; rw [if_pos S.1, S.2]; rfl), m2.2.1, nI_1, ← eb3, y2, Option.bind_some]
        show f_M_readsAll_l35 1 b1 = _
        rw [e35]
        exact y3
      · rw [if_neg (show ¬ (p1 < t ∧ B p1 = 59 ∧ ¬ weqB B t p1 = true) from fun z => S ⟨z.1, z.2.1⟩), if_pos rfl] at c1
        have nb : ∀ z : p1 < t, B p1 < 256 := fun z => (ht.1.2.2 p1 z).2
        have n59 : ¬ cdB B t p1 = 59 := fun z => by
          unfold cdB at z
          by_cases y : p1 < t
          · rw [if_pos y] at z
            have := nb y
            exact S ⟨y, (nI_eq (b := 59) (by omega) (by decide)).mp z⟩
          · rw [if_neg y] at z
            exact absurd z (by decide)
        have e35 : f_M_readsAll_l35 1 b1 = f_M_readsAll_b66 1 b2 := by
          refine whl_up ?_
          show (if (1 : Int32) = 0 then _ else (f_M_see b1).bind (fun q23 => if q23.1 = 59 then (f_M_clauseHere (xsI q23.2 12 8 0 (q23.2.1 12 8 0 + 1))).bind (fun q28 => some (Sum.inl (q28.1, q28.2))) else xup (f_M_readsAll_b66 1 q23.2))) = _
          rw [if_neg i1, see2, Option.bind_some, if_neg n59]
        have e66 : f_M_readsAll_b66 1 b2 = (if (1 : Int32) = 0 then f_M_readsAll_b88 b2 else (f_M_see b2).bind (fun q16 => if q16.1 = -1 then f_M_readsAll_b88 q16.2 else (f_M_fails 0 (q16.2.1 12 8 0) q16.2).bind (fun q20 => f_M_readsAll_b88 q20.2))) := rfl
        rw [if_neg i1, see3, Option.bind_some] at e66
        obtain ⟨_, x, np, _, _, _, _, _, _, _, _, k7, _⟩ := id ht
        by_cases y : p1 < t
        · have k0' : ¬ a1.1 7 7 0 = 0 := by
            rw [k7]
            unfold kdB
            rw [if_neg (show ¬ t ≤ p1 by omega)]
            split
            · decide
            · split <;> decide
          obtain ⟨a3, ea3, f3, mf, k3⟩ := lk_fail (w := 0) ht fa1 b29 t4 (by decide)
          have mf : f_M_fails 0 (nI p1) b2 = some (0, xsI b2 12 9 0 (nI (1 + 8 * p1 + 0))) := mf
          rw [if_neg k0', show f_Tape_fail 0 a1 = some a3 from ea3, Option.bind_some] at c1
          obtain ⟨b4, eb4⟩ : ∃ b4, b4 = xsI b2 12 9 0 (nI (1 + 8 * p1 + 0)) := ⟨_, rfl⟩
          rw [← eb4] at mf k3
          rw [if_neg (show ¬ cdB B t p1 = -1 from fun z => by unfold cdB at z; rw [if_pos y] at z; have := nb y; exact nI_nm1 (by omega) z), m2.2.1, mf, Option.bind_some, m_b88, rdI (by decide), ← k3.2.1, if_neg k3.2.2] at e66
          refine ⟨a3.1 7 9 0, a3, xsI b4 12 1 0 0, (1, b1), by rw [st 0 a3 c1, c_l31_0], eb1, ?_, by rw [rdI (by decide)]; exact k3.2.1.symm, rcF_t f1 (rcF_p f3), rmG_t g2 (rmG_t (by rw [eb4]; exact rmG_I (by omega)) (rmG_I (by omega))), rdI_s, fun z => absurd z k3.2.2⟩
          show f_M_readsAll_l35 1 b1 = _
          rw [e35, e66, if_neg k3.2.2]
        · have k0' : a1.1 7 7 0 = 0 := by
            rw [k7]
            unfold kdB
            rw [if_pos (show t ≤ p1 by omega)]
          rw [if_pos k0'] at c1
          rw [if_pos (show cdB B t p1 = -1 by unfold cdB; rw [if_neg y]), m_b88, rdI (by decide), b29, if_pos rfl] at e66
          refine ⟨0, a1, xsI b2 12 1 0 0, (1, b1), by rw [st 0 a1 c1, c_l31_0, fa1], eb1, ?_, by rw [rdI (by decide)]; exact b29, f1, rmG_t g2 (rmG_I (by omega)), rdI_s, fun _ => ⟨n1, m1, dD_of (fun _ _ => rfl) (fun _ _ _ => rfl) (fun _ _ => rfl) d2, x02⟩⟩
          show f_M_readsAll_l35 1 b1 = _
          rw [e35, e66, if_pos rfl]
    · have c1 := c_toClause (h := a1)
      rw [c_well, Option.bind_some, if_neg fk1.2.2, if_pos rfl] at c1
      have e88 := m_b88 (h := b1)
      rw [rdI (by decide), ← fk1.2.1, if_neg fk1.2.2] at e88
      refine ⟨a1.1 7 9 0, a1, xsI b1 12 1 0 0, (0, b1), by rw [st 0 a1 c1, c_l31_0], eb1, ?_, by rw [rdI (by decide)]; exact fk1.2.1.symm, f1, rmG_t (rmG_f g1) (rmG_I (by omega)), rdI_s, fun z => absurd z fk1.2.2⟩
      show f_M_readsAll_l35 0 b1 = _
      rw [m_l35_0, e88, if_neg fk1.2.2]
