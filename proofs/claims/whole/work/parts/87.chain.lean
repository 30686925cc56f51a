/-! PURE: chains; the reference's search -/
def cP (I : Nat) (U p : Nat → Nat) (k : Nat) : Prop := (∀ i, i < k → I.testBit (p i) = true) ∧ (∀ j i, j < i → i < k → p j ≠ p i) ∧ ∀ i, i + 1 < k → (U (p (i + 1))).testBit (p i) = true
theorem cP_d {I k : Nat} {U p : Nat → Nat} (hI : I < 256) (h : cP I U p k) : dR p k := ⟨fun i hi => bit_hi hI (h.1 i hi), h.2.1⟩
theorem cP_le {I k m : Nat} {U p : Nat → Nat} (h : cP I U p k) (hm : m ≤ k) : cP I U p m := ⟨fun i hi => h.1 i (by omega), fun j i hj hi => h.2.1 j i hj (by omega), fun i hi => h.2.2 i (by omega)⟩
theorem cP_c {I k : Nat} {U p q : Nat → Nat} (e : ∀ i, i < k → q i = p i) (h : cP I U p k) : cP I U q k := by
  refine ⟨fun i hi => by rw [e i hi]; exact h.1 i hi, fun j i hj hi => by rw [e i hi, e j (by omega)]; exact h.2.1 j i hj hi, fun i hi => ?_⟩
  rw [e (i + 1) hi, e i (by omega)]
  exact h.2.2 i hi
theorem m_isLink {h : xH} {n k : Nat} {p U : Nat → Nat} (hn : mN h n) (hU : ∀ k, k < n → mS h (36 + k) = nI (U k) ∧ U k < 256) (hk : k < 9) (hr : rwR h p (k + 1)) (hp : ∀ i, i < k + 1 → p i < n) : ∃ b : Bool, f_M_isLink (nI k) h = some (if b then 1 else 0) ∧ (b = true ↔ mIn h (p k) = true ∧ (∀ j, j < k → p j ≠ p k) ∧ (k = 0 ∨ (U (p k)).testBit (p (k - 1)) = true)) := by
  have h8 := hn.2
  have pk := hp k (by omega)
  have xk : xib (nI k) 9 := xibN hk (by decide)
  have ek : h.2.2.2.1 59 0 (nI k).toNatClampNeg = nI (p k) := by rw [nI_clamp (by omega)]; exact hr k (by omega)
  have e0 : f_M_isLink (nI k) h = (if mIn h (p k) = true then f_M_isLink_l17 (nI k) 0 h else some 0) := by
    have s0 : f_M_isLink (nI k) h = (if xib (nI k) 9 then (f_M_isInside_i (h.2.2.2.1 59 0 (nI k).toNatClampNeg) h).bind (fun r2 => if r2 = 0 then some 0 else f_M_isLink_l17 (nI k) 0 h) else none) := rfl
    rw [s0, if_pos xk, ek, m_isInside_in hn pk, Option.bind_some, sel_e]
  rw [e0]
  by_cases qi : mIn h (p k) = true
  · rw [if_pos qi]
    have key := whl_cntE (step := fun s : Int32 => f_M_isLink_s17 (nI k) s h) k (fun j s => s = nI j ∧ ∀ j', j' < j → p j' ≠ p k) (fun x => ∃ b : Bool, x = (if b then 1 else 0) ∧ (b = true ↔ mIn h (p k) = true ∧ (∀ j, j < k → p j ≠ p k) ∧ (k = 0 ∨ (U (p k)).testBit (p (k - 1)) = true))) ?_ ?_ 0 ⟨nI_0.symm, fun j' hj => absurd hj (by omega)⟩
    · obtain ⟨x, e, b, rfl, q⟩ := key
      exact ⟨b, e, q⟩
    · rintro j hj s ⟨e1, l⟩
      have e1 : s = nI j := e1
      subst e1
      have pj := hp j (by omega)
      have ej : h.2.2.2.1 59 0 (nI j).toNatClampNeg = nI (p j) := by rw [nI_clamp (by omega)]; exact hr j (by omega)
      have run : f_M_isLink_s17 (nI k) (nI j) h = (if nI (p j) = nI (p k) then some (Sum.inr 0) else some (Sum.inl (nI (j + 1)))) := by
        have s0 : f_M_isLink_s17 (nI k) (nI j) h = (if nI k ≤ nI j then xup (f_M_isLink_b45 (nI k) h) else if xib (nI j) 9 then (if xib (nI k) 9 then (if h.2.2.2.1 59 0 (nI j).toNatClampNeg = h.2.2.2.1 59 0 (nI k).toNatClampNeg then some (Sum.inr 0) else some (Sum.inl (nI j + 1))) else none) else none) := rfl
        rw [s0, if_neg (nI_ge hj (by omega)), if_pos (xibN (by omega) (by decide)), if_pos xk, ej, ek, nI_1]
      by_cases q : p j = p k
      · right
        exact ⟨0, by show f_M_isLink_s17 (nI k) (nI j) h = _; rw [run, q, if_pos rfl], false, rfl, ⟨fun z => by (cases z), fun z => absurd q (z.2.1 j hj)⟩⟩
      · left
        refine ⟨nI (j + 1), by show f_M_isLink_s17 (nI k) (nI j) h = _; rw [run, if_neg (fun z => q ((nI_eq (by omega) (by omega)).mp z))], rfl, fun j' hj' => ?_⟩
        by_cases z : j' = j
        · subst z; exact q
        · exact l j' (by omega)
    · rintro s ⟨e1, l⟩
      have e1 : s = nI k := e1
      subst e1
      have s0 : f_M_isLink_s17 (nI k) (nI k) h = xup (f_M_isLink_b45 (nI k) h) := if_pos (Int32.le_refl _)
      by_cases k0 : k = 0
      · refine ⟨1, ?_, true, rfl, ⟨fun _ => ⟨qi, l, Or.inl k0⟩, fun _ => rfl⟩⟩
        show f_M_isLink_s17 (nI k) (nI k) h = _
        rw [s0, k0]
        rfl
      · have pk1 := hp (k - 1) (by omega)
        have e45 : f_M_isLink_b45 (nI k) h = some (if (U (p k)).testBit (p (k - 1)) then 1 else 0) := by
          have s1 : f_M_isLink_b45 (nI k) h = (if nI k = 0 then some 1 else if xib (nI k) 9 then (if xib ((36 : Int32) + h.2.2.2.1 59 0 (nI k).toNatClampNeg) 101 then (if xib (nI k - 1) 9 then (f_M_isOf (mS h ((36 : Int32) + h.2.2.2.1 59 0 (nI k).toNatClampNeg).toNatClampNeg) (h.2.2.2.1 59 0 (nI k - 1).toNatClampNeg) h).bind (fun r10 => if r10 = 0 then some 0 else some 1) else none) else none) else none) := rfl
          have ep : nI k - 1 = nI (k - 1) := by
            rw [show k = (k - 1) + 1 by omega]
            exact nI_pred _
          rw [s1, if_neg (nI_ne0 (by omega) (by omega)), if_pos xk, ek, if_pos (xibA (c := 36) (a := 36) rfl (by omega) (by decide)), ep, if_pos (xibN (by omega) (by decide)), ixA (c := 36) (a := 36) rfl (by omega), (hU (p k) pk).1, nI_clamp (by omega), hr (k - 1) (by omega), m_isOf (hU (p k) pk).2 (by omega), Option.bind_some]
          cases (U (p k)).testBit (p (k - 1)) with
          | true => rfl
          | false => rfl
        refine ⟨_, ?_, (U (p k)).testBit (p (k - 1)), rfl, ⟨fun z => ⟨qi, l, Or.inr z⟩, fun z => z.2.2.resolve_left k0⟩⟩
        show f_M_isLink_s17 (nI k) (nI k) h = _
        rw [s0, e45]
        rfl
  · rw [if_neg qi]
    exact ⟨false, rfl, ⟨fun z => by (cases z), fun z => absurd z.1 qi⟩⟩
/-- rows that go on from p, k with one of x or more -/
def exC (I : Nat) (U p : Nat → Nat) (k x : Nat) (q : Nat → Nat) (m : Nat) : Prop := k < m ∧ (∀ i, i < k → q i = p i) ∧ cP I U q m ∧ x ≤ q k
/-- what a search below p, k from x on makes of the most and the first -/
def spC (I : Nat) (U : Nat → Nat) (T : Nat → Nat) (p : Nat → Nat) (k x M : Nat) (f : Int32) (M' : Nat) (f' : Int32) : Prop :=
  M ≤ M' ∧ (∀ q m, exC I U p k x q m → rN T q m ≤ M') ∧ ((M' = M ∧ f' = f) ∨ (M < M' ∧ ∃ q m, exC I U p k x q m ∧ rN T q m = M' ∧ f' = nI (q 0) ∧ ∀ q' m', exC I U p k x q' m' → rN T q' m' = M' → q 0 ≤ q' 0))
theorem spC_0 {I n : Nat} {U T p : Nat → Nat} {k M : Nat} {f : Int32} (hIn : ∀ o, I.testBit o = true → o < n) : spC I U T p k n M f M f :=
  ⟨Nat.le_refl _, fun q m ⟨h1, _, h3, h4⟩ => absurd (hIn _ (h3.1 k h1)) (by omega), Or.inl ⟨rfl, rfl⟩⟩
theorem spC_n {I : Nat} {U T p : Nat → Nat} {k x M M' : Nat} {f f' : Int32} (hx : ∀ q m, exC I U p k x q m → q k ≠ x) (h : spC I U T p k (x + 1) M f M' f') : spC I U T p k x M f M' f' := by
  have up : ∀ q m, exC I U p k x q m → exC I U p k (x + 1) q m := fun q m e => ⟨e.1, e.2.1, e.2.2.1, by have := hx q m e; have := e.2.2.2; omega⟩
  refine ⟨h.1, fun q m e => h.2.1 q m (up q m e), h.2.2.imp id (fun ⟨a, q, m, b, c, d, e⟩ => ⟨a, q, m, ⟨b.1, b.2.1, b.2.2.1, by have := b.2.2.2; omega⟩, c, d, fun q' m' z => e q' m' (up q' m' z)⟩)⟩
theorem spC_v {I : Nat} {U T p p1 : Nat → Nat} {k x M M1 M2 M3 : Nat} {f f1 f2 f3 : Int32} (e1 : ∀ i, i < k → p1 i = p i) (ex : p1 k = x) (hc : cP I U p1 (k + 1)) (h1 : (rN T p1 (k + 1) ≤ M ∧ M1 = M ∧ f1 = f) ∨ (M < rN T p1 (k + 1) ∧ M1 = rN T p1 (k + 1) ∧ f1 = nI (p1 0))) (h2 : spC I U T p1 (k + 1) 0 M1 f1 M2 f2) (h3 : spC I U T p k (x + 1) M2 f2 M3 f3) : spC I U T p k x M f M3 f3 := by
  have m1 : M ≤ M1 := by
    rcases h1 with ⟨a, b, -⟩ | ⟨a, b, -⟩ <;> omega
  have t1 : rN T p1 (k + 1) ≤ M1 := by
    rcases h1 with ⟨a, b, -⟩ | ⟨a, b, -⟩ <;> omega
  have up : ∀ q m, exC I U p k x q m → q k = x → rN T q m ≤ M2 := by
    intro q m e qx
    have ag : ∀ i, i < k + 1 → q i = p1 i := fun i hi => by
      by_cases z : i = k
      · rw [z, qx, ex]
      · rw [e.2.1 i (by omega), e1 i (by omega)]
    by_cases z : m = k + 1
    · rw [z, rN_congr ag]
      exact Nat.le_trans t1 h2.1
    · exact h2.2.1 q m ⟨by have := e.1; omega, ag, e.2.2.1, Nat.zero_le _⟩
  have m3 : M ≤ M3 := Nat.le_trans m1 (Nat.le_trans h2.1 h3.1)
  have all : ∀ q m, exC I U p k x q m → rN T q m ≤ M3 := by
    intro q m e
    by_cases z : q k = x
    · exact Nat.le_trans (up q m e z) h3.1
    · exact h3.2.1 q m ⟨e.1, e.2.1, e.2.2.1, by have := e.2.2.2; omega⟩
  have low : ∀ (q : Nat → Nat), (∀ i, i < k + 1 → q i = p1 i) → ∀ q' m', exC I U p k x q' m' → q 0 ≤ q' 0 := by
    intro q ag q' m' e'
    by_cases z : k = 0
    · subst z
      rw [ag 0 (by omega), ex]
      exact e'.2.2.2
    · rw [ag 0 (by omega), e1 0 (by omega), e'.2.1 0 (by omega)]
      exact Nat.le_refl _
  refine ⟨m3, all, ?_⟩
  rcases h3.2.2 with ⟨a3, b3⟩ | ⟨a3, q, m, b3, c3, d3, g3⟩
  · rcases h2.2.2 with ⟨a2, b2⟩ | ⟨a2, q, m, b2, c2, d2, g2⟩
    · rcases h1 with ⟨a, b, c⟩ | ⟨a, b, c⟩
      · left
        exact ⟨by omega, by rw [b3, b2, c]⟩
      · right
        refine ⟨by omega, p1, k + 1, ⟨by omega, e1, hc, by rw [ex]; exact Nat.le_refl _⟩, by omega, by rw [b3, b2, c], fun q' m' z _ => low p1 (fun i _ => rfl) q' m' z⟩
    · right
      refine ⟨by omega, q, m, ⟨by have := b2.1; omega, fun i hi => by rw [b2.2.1 i (by omega), e1 i hi], b2.2.2.1, by rw [b2.2.1 k (by omega), ex]; exact Nat.le_refl _⟩, by omega, by rw [b3, d2], fun q' m' z _ => low q b2.2.1 q' m' z⟩
  · right
    refine ⟨by have := h2.1; omega, q, m, ⟨b3.1, b3.2.1, b3.2.2.1, by have := b3.2.2.2; omega⟩, c3, d3, fun q' m' z w => ?_⟩
    by_cases y : q' k = x
    · have := up q' m' z y
      omega
    · exact g3 q' m' ⟨z.1, z.2.1, z.2.2.1, by have := z.2.2.2; omega⟩ w
theorem m_chain34 {h : xH} {n I : Nat} {U T : Nat → Nat} (v : Int32) (hn : mN h n) (hU : ∀ k, k < n → mS h (36 + k) = nI (U k) ∧ U k < 256) (hT : ∀ k, k < n → mS h (44 + k) = nI (T k) ∧ T k ≤ 40) (hI : I = bs (mIn h) n) : ∀ d k, k + d = 9 → ∀ e x, x + e = n → ∀ (p : Nat → Nat) (A : Nat → Int32) (M : Nat) (f : Int32), M < 2 ^ 30 → cP I U p k → (∀ i, i < k → A i = nI (p i)) → A k = nI x - 1 → ∃ (A' : Nat → Int32) (M' : Nat) (f' : Int32), M' < 2 ^ 30 ∧ f_M_chain_l34 v (nI M) f (nI k) (xsA h 59 0 A) = f_M_chain_l34 v (nI M') f' (nI k - 1) (xsA h 59 0 A') ∧ (∀ i, i < k → A' i = nI (p i)) ∧ spC I U T p k x M f M' f' := by
  have h8 := hn.2
  have hI8 : I < 256 := by rw [hI]; exact bs_lt8 _ h8
  have hIn : ∀ o, I.testBit o = true → o < n ∧ mIn h o = true := by
    intro o z
    rw [hI, bs_bit, Bool.and_eq_true, decide_eq_true_iff] at z
    exact z
  intro d
  induction d with
  | zero =>
    intro k hk e x hx p A M f hM hc
    have := dR_8 (cP_d hI8 hc)
    omega
  | succ d ihd =>
    intro k hk e
    induction e with
    | zero =>
      intro x hx p A M f hM hc hA hAk
      have hx : x = n := by omega
      subst hx
      refine ⟨upd A k (nI x), M, f, hM, ?_, fun i hi => by rw [pk_un (by omega)]; exact hA i hi, spC_0 (fun o z => (hIn o z).1)⟩
      apply whl_st
      show f_M_chain_s34 v (nI M) f (nI k) (xsA h 59 0 A) = _
      have ek : (nI k).toNatClampNeg = k := nI_clamp (by omega)
      have m3 : ∀ B, (xsA h 59 0 B).2.2.2.1 56 0 ((3 : Int32)).toNatClampNeg = nI x := fun B => by
        rw [rdA_n (by decide)]
        exact hn.1
      unfold f_M_chain_s34
      rw [if_neg (nI_pos (by omega)), if_pos (xibN (by omega) (by decide)), if_pos (xibN (by omega) (by decide)), xlet_e, if_pos (xibN (by omega) (by decide)), rdA_s, rdA_s, xsA_2, ek, pk_us, hAk, show nI x - 1 + 1 = nI x from Int32.sub_add_cancel _ _, m3, if_neg (nI_nlt (Nat.le_refl _) (by omega)), xlet_e]
      rw [show nI k + (-1) = nI k - 1 from (Int32.sub_eq_add_neg _ _).symm]
    | succ e ihe =>
      intro x hx p A M f hM hc hA hAk
      have hxn : x < n := by omega
      obtain ⟨p1, hp1⟩ : ∃ p1 : Nat → Nat, p1 = fun i => if i = k then x else p i := ⟨_, rfl⟩
      have p1k : p1 k = x := by rw [hp1]; exact if_pos rfl
      have p1o : ∀ i, i < k → p1 i = p i := fun i hi => by rw [hp1]; exact if_neg (by omega)
      obtain ⟨A1, hA1⟩ : ∃ A1, A1 = upd A k (nI x) := ⟨_, rfl⟩
      have A1r : ∀ i, i < k + 1 → A1 i = nI (p1 i) := fun i hi => by
        rw [hA1]
        by_cases z : i = k
        · rw [z, pk_us, p1k]
        · rw [pk_un z, hA i (by omega), p1o i (by omega)]
      have hn1 : mN (xsA h 59 0 A1) n := ⟨by show (xsA h 59 0 A1).2.2.2.1 56 0 3 = _; rw [rdA_n (by decide)]; exact hn.1, h8⟩
      have eS : mS (xsA h 59 0 A1) = mS h := by
        show (xsA h 59 0 A1).2.2.2.1 56 0 = _
        rw [rdA_n (by decide)]
      have rw1 : rwR (xsA h 59 0 A1) p1 (k + 1) := fun i hi => by rw [rdA_s]; exact A1r i hi
      have p1n : ∀ i, i < k + 1 → p1 i < n := fun i hi => by
        by_cases z : i = k
        · rw [z, p1k]; exact hxn
        · rw [p1o i (by omega)]
          exact (hIn _ (hc.1 i (by omega))).1
      have k9 : k < 9 := by omega
      obtain ⟨b, eb, hb⟩ := m_isLink (k := k) hn1 (by rw [eS]; exact hU) k9 rw1 p1n
      have hb2 : b = true ↔ cP I U p1 (k + 1) := by
        rw [hb, p1k]
        have im : mIn (xsA h 59 0 A1) x = mIn h x := by unfold mIn; rw [eS]
        rw [im]
        constructor
        · rintro ⟨z1, z2, z3⟩
          refine ⟨fun i hi => ?_, fun j i hj hi => ?_, fun i hi => ?_⟩
          · by_cases z : i = k
            · rw [z, p1k, hI, bs_bit, Bool.and_eq_true, decide_eq_true_iff]
              exact ⟨hxn, z1⟩
            · rw [p1o i (by omega)]
              exact hc.1 i (by omega)
          · by_cases z : i = k
            · subst z
              rw [p1k]
              exact z2 j hj
            · rw [p1o i (by omega), p1o j (by omega)]
              exact hc.2.1 j i hj (by omega)
          · by_cases z : i + 1 = k
            · have := z3.resolve_left (by omega)
              rw [show k - 1 = i by omega] at this
              rw [z, p1k]
              exact this
            · rw [p1o (i + 1) (by omega), p1o i (by omega)]
              exact hc.2.2 i (by omega)
        · intro z
          refine ⟨?_, fun j hj => by rw [← p1k]; exact z.2.1 j k hj (by omega), ?_⟩
          · have := z.1 k (by omega)
            rw [p1k] at this
            exact (hIn _ this).2
          · by_cases k0 : k = 0
            · exact Or.inl k0
            · right
              have := z.2.2 (k - 1) (by omega)
              rw [show k - 1 + 1 = k by omega, p1k] at this
              exact this
      have ek : (nI k).toNatClampNeg = k := nI_clamp (by omega)
      have run : f_M_chain_s34 v (nI M) f (nI k) (xsA h 59 0 A) = (if (if b = true then (1 : Int32) else 0) = 0 then some (Sum.inl (nI M, f, nI k, xsA h 59 0 A1)) else (f_M_rowSum (nI (k + 1)) 44 (xsA h 59 0 A1)).bind (fun r19 => if r19 ≤ nI M then f_M_chain_b113 v (nI M) f (nI (k + 1)) (xsA h 59 0 A1) else f_M_chain_b113 v r19 (A1 0) (nI (k + 1)) (xsA h 59 0 A1))) := by
        have m3 : (xsA h 59 0 A1).2.2.2.1 56 0 ((3 : Int32)).toNatClampNeg = nI n := hn1.1
        have ea : upd ((xsA h 59 0 A).2.2.2.1 59 0) (nI k).toNatClampNeg ((xsA h 59 0 A).2.2.2.1 59 0 (nI k).toNatClampNeg + 1) = A1 := by
          rw [rdA_s, ek, hA1, hAk, show nI x - 1 + 1 = nI x from Int32.sub_add_cancel _ _]
        have cx : (xsA h 59 0 A1).2.2.2.1 59 0 (nI k).toNatClampNeg < (xsA h 59 0 A1).2.2.2.1 56 0 ((3 : Int32)).toNatClampNeg := by
          rw [m3, rdA_s, ek, A1r k (by omega), p1k]
          exact nI_lt hxn (by omega)
        have e10 : (xsA h 59 0 A1).2.2.2.1 59 0 ((0 : Int32)).toNatClampNeg = A1 0 := by rw [rdA_s]; rfl
        unfold f_M_chain_s34
        rw [if_neg (nI_pos (by omega)), if_pos (xibN (by omega) (by decide)), if_pos (xibN (by omega) (by decide)), ea, xsA_2, xlet_e, if_pos (xibN (by omega) (by decide)), if_pos cx, eb, Option.bind_some, xlet_e, nI_1, e10]
        rfl
      have A1k : A1 k = nI (x + 1) - 1 := by rw [A1r k (by omega), p1k, nI_pred]
      cases b with
      | false =>
        have nl : ¬ cP I U p1 (k + 1) := fun z => by
          have := hb2.mpr z
          cases this
        obtain ⟨A', M', f', hM', e', hA', s'⟩ := ihe (x + 1) (by omega) p A1 M f hM hc (fun i hi => by rw [A1r i (by omega), p1o i hi]) A1k
        refine ⟨A', M', f', hM', ?_, hA', spC_n (fun q m z y => nl ?_) s'⟩
        · rw [← e']
          apply whl_st
          show f_M_chain_s34 v (nI M) f (nI k) (xsA h 59 0 A) = _
          rw [run, sel_e, if_neg (by decide)]
        · exact cP_c (fun i hi => by
            by_cases w : i = k
            · rw [w, p1k, y]
            · rw [p1o i (by omega), z.2.1 i (by omega)]) (cP_le z.2.2.1 z.1)
      | true =>
        have c1 := hb2.mp rfl
        have d1 := cP_d hI8 c1
        have k8 := dR_8 d1
        have rs := m_rowSum (h := xsA h 59 0 A1) (k := k + 1) (a := 44) (c := 44) (f := T) (p := p1) rfl (by decide) (by omega) rw1 d1.1 (fun i hi => by rw [eS]; exact (hT _ (p1n i hi)).1)
        have Tb : rN T p1 (k + 1) ≤ 320 := by
          rw [rN_wt d1]
          exact wt_le (M := 40) (fun y z => (hT y (by
            obtain ⟨j, hj, e⟩ := sP_bit.mp z
            rw [← e]
            exact p1n j hj)).2)
        obtain ⟨A2, hA2⟩ : ∃ A2, A2 = upd A1 (k + 1) (-1) := ⟨_, rfl⟩
        have b113 : ∀ v2 v3, f_M_chain_b113 v v2 v3 (nI (k + 1)) (xsA h 59 0 A1) = some (Sum.inl (v2, v3, nI (k + 1), xsA h 59 0 A2)) := fun v2 v3 => by
          unfold f_M_chain_b113
          rw [if_pos (xibN (by omega) (by decide)), nI_clamp (by omega), xlet_e, rdA_s, xsA_2, hA2]
        have A2r : ∀ i, i < k + 1 → A2 i = nI (p1 i) := fun i hi => by rw [hA2, pk_un (by omega)]; exact A1r i hi
        have A2k : A2 (k + 1) = nI 0 - 1 := by rw [hA2, pk_us]; decide
        have A10 : A1 0 = nI (p1 0) := A1r 0 (by omega)
        obtain ⟨M1, f1, hM1, h1, e1⟩ : ∃ M1 f1, M1 < 2 ^ 30 ∧ ((rN T p1 (k + 1) ≤ M ∧ M1 = M ∧ f1 = f) ∨ (M < rN T p1 (k + 1) ∧ M1 = rN T p1 (k + 1) ∧ f1 = nI (p1 0))) ∧ f_M_chain_s34 v (nI M) f (nI k) (xsA h 59 0 A) = some (Sum.inl (nI M1, f1, nI (k + 1), xsA h 59 0 A2)) := by
          rw [run, sel_e, if_pos rfl, rs, Option.bind_some, b113, b113, A10]
          by_cases q : rN T p1 (k + 1) ≤ M
          · exact ⟨M, f, hM, Or.inl ⟨q, rfl, rfl⟩, if_pos (nI_le q (by omega))⟩
          · exact ⟨rN T p1 (k + 1), nI (p1 0), by omega, Or.inr ⟨by omega, rfl, rfl⟩, if_neg (nI_ge (by omega) (by omega))⟩
        obtain ⟨A3, M2, f2, hM2, e2, hA3, s2⟩ := ihd (k + 1) (by omega) n 0 (by omega) p1 A2 M1 f1 hM1 c1 A2r A2k
        rw [nI_pred] at e2
        obtain ⟨A4, M3, f3, hM3, e3, hA4, s3⟩ := ihe (x + 1) (by omega) p A3 M2 f2 hM2 hc (fun i hi => by rw [hA3 i (by omega), p1o i hi]) (by rw [hA3 k (by omega), p1k, nI_pred])
        refine ⟨A4, M3, f3, hM3, ?_, hA4, spC_v p1o p1k c1 h1 s2 s3⟩
        rw [← e3, ← e2]
        exact whl_st e1
/-- the most and the first of all chains -/
def isC (I : Nat) (U T : Nat → Nat) (M : Nat) (F : Int32) : Prop := (∀ q m, 0 < m → cP I U q m → rN T q m ≤ M) ∧ ((M = 0 ∧ F = -2) ∨ (0 < M ∧ ∃ q m, 0 < m ∧ cP I U q m ∧ rN T q m = M ∧ F = nI (q 0) ∧ ∀ q' m', 0 < m' → cP I U q' m' → rN T q' m' = M → q 0 ≤ q' 0))
theorem isC_u {I : Nat} {U T : Nat → Nat} {M M' : Nat} {F F' : Int32} (a : isC I U T M F) (b : isC I U T M' F') : M = M' ∧ F = F' := by
  obtain ⟨a1, a2⟩ := a
  obtain ⟨b1, b2⟩ := b
  rcases a2 with ⟨rfl, rfl⟩ | ⟨pa, q, m, hm, hc, e, rfl, l⟩
  · rcases b2 with ⟨rfl, rfl⟩ | ⟨pb, q', m', hm', hc', e', rfl, l'⟩
    · exact ⟨rfl, rfl⟩
    · have := a1 q' m' hm' hc'
      omega
  · rcases b2 with ⟨rfl, rfl⟩ | ⟨pb, q', m', hm', hc', e', rfl, l'⟩
    · have := b1 q m hm hc
      omega
    · have h1 := a1 q' m' hm' hc'
      have h2 := b1 q m hm hc
      have hM : M = M' := by omega
      subst hM
      have := l q' m' hm' hc' e'
      have := l' q m hm hc e
      exact ⟨rfl, by rw [show q 0 = q' 0 by omega]⟩
theorem m_chain {h : xH} {n I : Nat} {U T : Nat → Nat} (v : Int32) (hn : mN h n) (hU : ∀ k, k < n → mS h (36 + k) = nI (U k) ∧ U k < 256) (hT : ∀ k, k < n → mS h (44 + k) = nI (T k) ∧ T k ≤ 40) (hI : I = bs (mIn h) n) : ∃ (A : Nat → Int32) (M : Nat) (F : Int32), f_M_chain_l34 v 0 (-2) 0 (xsA h 59 0 (upd (h.2.2.2.1 59 0) 0 (-1))) = some (if v = 0 then nI M else F, xsA h 59 0 A) ∧ isC I U T M F := by
  obtain ⟨A, M, F, -, e, -, s⟩ := m_chain34 v hn hU hT hI 9 0 (by decide) n 0 (by omega) (fun _ => 0) (upd (h.2.2.2.1 59 0) 0 (-1)) 0 (-2) (by decide) ⟨fun i hi => absurd hi (by omega), fun j i _ hi => absurd hi (by omega), fun i hi => absurd hi (by omega)⟩ (fun i hi => absurd hi (by omega)) (by rw [pk_us]; decide)
  have ex : ∀ q m, 0 < m → cP I U q m → exC I U (fun _ => 0) 0 0 q m := fun q m hm hc => ⟨hm, fun i hi => absurd hi (by omega), hc, Nat.zero_le _⟩
  refine ⟨A, M, F, ?_, fun q m hm hc => s.2.1 q m (ex q m hm hc), s.2.2.imp id (fun ⟨a, q, m, b, c, d, g⟩ => ⟨a, q, m, b.1, b.2.2.1, c, d, fun q' m' hm' hc' => g q' m' (ex q' m' hm' hc')⟩)⟩
  refine Eq.trans e ?_
  apply whl_en
  show f_M_chain_s34 v (nI M) F (nI 0 - 1) (xsA h 59 0 A) = _
  unfold f_M_chain_s34 f_M_chain_b124
  rw [if_pos (by decide)]
  by_cases q : v = 0
  · rw [if_pos q, if_pos q]; rfl
  · rw [if_neg q, if_neg q]; rfl
