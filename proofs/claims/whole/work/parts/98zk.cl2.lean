/-! PURE: rule: clauses so far, both sides -/
theorem szc_a {q : Cl} : ∀ {cs : List Cl}, szc (cs ++ [q]) = szc cs + szc [q]
  | [] => by rw [List.nil_append]; show szc [q] = 0 + szc [q]; omega
  | (ls, none) :: rest => by
    show ls.length + szc (rest ++ [q]) = ls.length + szc rest + szc [q]
    rw [szc_a (cs := rest)]; omega
  | (ls, some l) :: rest => by
    show ls.length + l.length + szc (rest ++ [q]) = ls.length + l.length + szc rest + szc [q]
    rw [szc_a (cs := rest)]; omega
def clI (a b : xH) (R : Nat) (cs : List Cl) (k : Nat) : Prop := rz a b R (szc cs + cs.length) (szc cs) k ∧ mcP (b.2.2.2.1 48 0) (b.2.2.2.1 50 0) R 0 0 cs ∧ ccP (a.2.2.2.1 18 R) 0 0 cs ∧ b.2.2.2.1 51 0 R = nI cs.length ∧ a.1 3 2 0 = nI cs.length ∧ b.1 12 14 0 = nI cs.length ∧ cs.length ≤ 12 ∧ (a.1 2 3 R = 1 ∨ (a.1 2 3 R = 0 ∧ noAsk cs))
theorem noAsk_a {cs : List Cl} {q : Cl} (x : noAsk cs) (y : (∀ t, t ∈ q.1 → ¬ asks t) ∧ ∀ l, q.2 = some l → ∀ t, t ∈ l → ¬ asks t) : noAsk (cs ++ [q]) := fun z hz => by
  rcases List.mem_append.mp hz with w | w
  · exact x z w
  · rw [List.mem_singleton.mp w]; exact y
/-- one clause more -/
theorem clI_a {a b a' b' : xH} {R k k' : Nat} {cs : List Cl} {q : Cl} (hi : clI a b R cs k) (hz : rz a' b' R (szc cs + cs.length + szc [q] + 1) (szc cs + szc [q]) k') (h48 : ∀ j, j < 400 * R + szc cs → b'.2.2.2.1 48 0 j = b.2.2.2.1 48 0 j) (h50 : ∀ j, j < 48 * R + 4 * cs.length → b'.2.2.2.1 50 0 j = b.2.2.2.1 50 0 j) (h18 : ∀ j, j < szc cs + cs.length → a'.2.2.2.1 18 R j = a.2.2.2.1 18 R j) (hm : mcP (b'.2.2.2.1 48 0) (b'.2.2.2.1 50 0) R cs.length (szc cs) [q]) (hc : ccP (a'.2.2.2.1 18 R) cs.length (szc cs) [q]) (h51 : b'.2.2.2.1 51 0 R = nI (cs.length + 1)) (h3 : a'.1 3 2 0 = nI (cs.length + 1)) (h14 : b'.1 12 14 0 = nI (cs.length + 1)) (h12 : cs.length < 12) (ha : a'.1 2 3 R = 1 ∨ (a'.1 2 3 R = a.1 2 3 R ∧ (∀ t, t ∈ q.1 → ¬ asks t) ∧ ∀ l, q.2 = some l → ∀ t, t ∈ l → ¬ asks t)) : clI a' b' R (cs ++ [q]) k' := by
  obtain ⟨i1, i2, i3, i4, i5, i6, i7, i8⟩ := hi
  have len : (cs ++ [q]).length = cs.length + 1 := by rw [List.length_append]; rfl
  refine ⟨?_, mcP_a (mcP_c (fun j hj => h48 j (by omega)) (fun j hj => h50 j (by omega)) i2) (by rw [Nat.zero_add, Nat.zero_add]; exact hm), ccP_a (ccP_c (fun j hj => h18 j (by omega)) i3) (by rw [Nat.zero_add, Nat.zero_add]; exact hc), by rw [len]; exact h51, by rw [len]; exact h3, by rw [len]; exact h14, by rw [len]; omega, ?_⟩
  · rw [len, szc_a, show szc cs + szc [q] + (cs.length + 1) = szc cs + cs.length + szc [q] + 1 by omega]
    exact hz
  · rcases ha with ha | ⟨ha, hb⟩
    · exact Or.inl ha
    · rcases i8 with i8 | ⟨i8, i9⟩
      · exact Or.inl (ha.trans i8)
      · exact Or.inr ⟨ha.trans i8, noAsk_a i9 hb⟩
/-- what reading a rule may change -/
def ruC (R : Nat) (a a' : xH) : Prop := (∀ c k i, ¬ (c = 7 ∧ ¬ k = 6) → ¬ (c = 2 ∧ i = R) → ¬ c = 3 → a'.1 c k i = a.1 c k i) ∧ (∀ f i, ¬ (i = 0 ∧ 34 ≤ f ∧ f ≤ 36) → ¬ (f = 18 ∧ i = R) → a'.2.2.2.1 f i = a.2.2.2.1 f i) ∧ a'.2.2.1 = a.2.2.1
def ruM (R : Nat) (b b' : xH) : Prop := (∀ c k i, ¬ (c = 12 ∧ (k = 1 ∨ (8 ≤ k ∧ k ≤ 10) ∨ (12 ≤ k ∧ k ≤ 14) ∨ k = 16)) → b'.1 c k i = b.1 c k i) ∧ (∀ f i, ¬ ((f = 48 ∨ f = 49 ∨ f = 50 ∨ f = 51 ∨ f = 53) ∧ i = 0) → b'.2.2.2.1 f i = b.2.2.2.1 f i) ∧ (∀ j, j ≠ R → b'.2.2.2.1 49 0 j = b.2.2.2.1 49 0 j) ∧ (∀ j, j < 400 * R → b'.2.2.2.1 48 0 j = b.2.2.2.1 48 0 j) ∧ (∀ j, j < 48 * R → b'.2.2.2.1 50 0 j = b.2.2.2.1 50 0 j) ∧ ∀ j, j ≠ R → b'.2.2.2.1 51 0 j = b.2.2.2.1 51 0 j
theorem ruC_t {R : Nat} {a b c : xH} (x : ruC R a b) (y : ruC R b c) : ruC R a c := ⟨fun d k i p q r => (y.1 d k i p q r).trans (x.1 d k i p q r), fun f i p q => (y.2.1 f i p q).trans (x.2.1 f i p q), y.2.2.trans x.2.2⟩
theorem ruC_s {R : Nat} {a b : xH} (x : sfC R a b) : ruC R a b := ⟨fun d k i p q r => x.1 d k i p q (by omega), x.2.1, x.2.2⟩
theorem ruC_3 {R : Nat} {a : xH} {k : Nat} {v : Int32} : ruC R a (xsI a 3 k 0 v) := ⟨fun _ _ _ _ _ r => rdI (by omega), fun _ _ _ _ => rfl, rfl⟩
theorem ruM_t {R : Nat} {a b c : xH} (x : ruM R a b) (y : ruM R b c) : ruM R a c := ⟨fun d k i p => (y.1 d k i p).trans (x.1 d k i p), fun f i p => (y.2.1 f i p).trans (x.2.1 f i p), fun j p => (y.2.2.1 j p).trans (x.2.2.1 j p), fun j p => (y.2.2.2.1 j p).trans (x.2.2.2.1 j p), fun j p => (y.2.2.2.2.1 j p).trans (x.2.2.2.2.1 j p), fun j p => (y.2.2.2.2.2 j p).trans (x.2.2.2.2.2 j p)⟩
theorem ruM_f {R : Nat} {a b : xH} (x : tfM R a b) : ruM R a b := ⟨fun d k i p => x.1 d k i (by omega), fun f i p => x.2.1 f i (by omega), x.2.2.1, x.2.2.2, fun j _ => by rw [x.2.1 50 0 (by omega)], fun j _ => by rw [x.2.1 51 0 (by omega)]⟩
theorem ruM_I {R : Nat} {b : xH} {k : Nat} {v : Int32} (h : k = 1 ∨ (8 ≤ k ∧ k ≤ 10) ∨ (12 ≤ k ∧ k ≤ 14) ∨ k = 16) : ruM R b (xsI b 12 k 0 v) := ⟨fun _ _ _ p => rdI (by omega), fun _ _ _ => rfl, fun _ _ => rfl, fun _ _ => rfl, fun _ _ => rfl, fun _ _ => rfl⟩
theorem ruM_50 {R : Nat} {b : xH} {j : Nat} {v : Int32} (h : 48 * R ≤ j) : ruM R b (s50 b j v) := ⟨fun _ _ _ _ => rfl, fun f i z => by show (xsA b 50 0 _).2.2.2.1 f i = _; rw [rdA_n (by omega)], fun i _ => by rw [s50_A (by decide)], fun i _ => by rw [s50_A (by decide)], fun i hi => s50_n (by omega), fun i _ => by rw [s50_A (by decide)]⟩
theorem ruM_51 {R : Nat} {b : xH} {v : Int32} : ruM R b (xsA b 51 0 (upd (b.2.2.2.1 51 0) R v)) := ⟨fun _ _ _ _ => rfl, fun f i z => rdA_n (by omega), fun j _ => by rw [rdA_n (by decide)], fun j _ => by rw [rdA_n (by decide)], fun j _ => by rw [rdA_n (by decide)], fun j hj => by rw [rdA_s, pk_un hj]⟩
/-- the outcome of a clause -/
def ou (a' b' : xH) (t : Nat) (B : Nat → Nat) (R n : Nat) (r : Int32) : Prop := (r = 1 ∧ a'.1 7 9 0 = 0 ∧ b'.1 12 9 0 = 0 ∧ ∃ cs k p, clI a' b' R cs k ∧ cs.length = n + 1 ∧ szc cs + cs.length ≤ p ∧ sy a' b' t B p) ∨ (r = 0 ∧ fk a' b' t B)
