/-! PURE: a Scene copied; stores that hold the same of all that counts -/
theorem vOk_v {V W : Nat → Int32} {n m c : Nat} (hV : ∀ t, t ≤ 100 → W t = V t) (hv : vOk V n m c) : vOk W n m c := by
  obtain ⟨-, a1, -, -, -, -, -, -, -, -, -, -, a8, c10, a9⟩ := id hv
  refine vOk_note hv (fun t ht => hV t (by omega)) (by rw [hV 100 (by omega)]; exact a8) c10 (fun z => (a1 z).2.2) (fun j hj => ?_)
  rw [hV (80 + 2 * j) (by omega), hV (81 + 2 * j) (by omega)]
  exact a9 j hj
theorem scR_of {h h' : xH} {i i' n m c : Nat} {V W : Nat → Int32} (e8 : ∀ k, k < 5 → h'.1 8 k i' = h.1 8 k i) (e6 : ∀ k, k < 4 → h'.1 6 k i' = h.1 6 k i) (e4 : h'.1 4 4 i' = h.1 4 4 i) (a37 : ∀ f, 37 ≤ f → f ≤ 40 → ∀ k, k < 8 → h'.2.2.2.1 f i' k = h.2.2.2.1 f i k) (a41 : ∀ k, k < 4 → h'.2.2.2.1 41 i' k = h.2.2.2.1 41 i k) (a29 : ∀ f, 29 ≤ f → f ≤ 32 → ∀ k, k < 8 → h'.2.2.2.1 f i' k = h.2.2.2.1 f i k) (a20 : ∀ f, f = 20 ∨ f = 21 → ∀ k, k < 10 → h'.2.2.2.1 f i' k = h.2.2.2.1 f i k) (hV : ∀ t, t ≤ 100 → W t = V t) (hr : scR h i V n m c) : scR h' i' W n m c := by
  obtain ⟨a, b, d, e, f⟩ := hr
  obtain ⟨-, -, -, -, -, n8, -, m4, -, -, -, -, -, c10, -⟩ := id a
  refine ⟨vOk_v hV a, toR_n n8 m4 (fun t ht => hV t (by omega)) (toR_of e8 (fun g h1 h2 k hk => a37 g h1 h2 k (by omega)) (fun k hk => a41 k (by omega)) b), stR_v n8 (fun t ht => hV t (by omega)) (stR_of e6 (fun g h1 h2 k hk => a29 g h1 h2 k (by omega)) d), by rw [e4, hV 100 (by omega)]; exact e, fun j hj => ?_⟩
  rw [a20 20 (Or.inl rfl) j (by omega), a20 21 (Or.inr rfl) j (by omega), hV (80 + 2 * j) (by omega), hV (81 + 2 * j) (by omega)]
  exact f j hj
def scF (c i a : Nat) : Prop := (c = 4 ∨ c = 6 ∨ c = 8) ∧ i = a
def scA (f i a : Nat) : Prop := (f = 20 ∨ f = 21 ∨ (29 ≤ f ∧ f ≤ 32) ∨ (37 ≤ f ∧ f ≤ 41)) ∧ i = a
/-- Scene a has become what Scene b is; nothing else has changed -/
def cpSc (h h1 : xH) (a b : Nat) : Prop :=
  (∀ k, k < 5 → h1.1 8 k a = h.1 8 k b) ∧ (∀ k, k < 4 → h1.1 6 k a = h.1 6 k b) ∧ (h1.1 4 2 a = h.1 4 2 b ∧ h1.1 4 3 a = h.1 4 3 b ∧ h1.1 4 4 a = h.1 4 4 b) ∧ (∀ f, 37 ≤ f → f ≤ 40 → ∀ k, k < 8 → h1.2.2.2.1 f a k = h.2.2.2.1 f b k) ∧ (∀ k, k < 4 → h1.2.2.2.1 41 a k = h.2.2.2.1 41 b k) ∧ (∀ f, 29 ≤ f → f ≤ 32 → ∀ k, k < 8 → h1.2.2.2.1 f a k = h.2.2.2.1 f b k) ∧ (∀ f, f = 20 ∨ f = 21 → ∀ k, k < 10 → h1.2.2.2.1 f a k = h.2.2.2.1 f b k) ∧ (∀ c k i, ¬ scF c i a → h1.1 c k i = h.1 c k i) ∧ ∀ f i, ¬ scA f i a → h1.2.2.2.1 f i = h.2.2.2.1 f i
theorem c_sceneCopy {h : xH} {a b : Nat} (hab : a ≠ b) (h01 : h.1 8 0 b = 0 ∨ h.1 8 0 b = 1) : ∃ h1, f_Scene_copyFrom a b h = some h1 ∧ cpSc h h1 a b := by
  have hba : b ≠ a := Ne.symm hab
  obtain ⟨g1, e1, t1, t2, t3, t4, t5⟩ := c_toldCopy hab h01
  obtain ⟨g2, e2, c1, c2, c3, c4, -, -, -⟩ := c_copyFrom (h := g1) hab
  have cp : ∀ (f g : Nat → Int32) (k : Nat), k < 10 → va_cpy f g ((0 : Int32)).toNatClampNeg ((0 : Int32)).toNatClampNeg ((10 : Int32)).toNatClampNeg k = f k := by
    intro f g k hk
    show (if 0 ≤ k ∧ k < 0 + 10 then f (0 + (k - 0)) else g k) = f k
    rw [if_pos ⟨Nat.zero_le _, by omega⟩]
    congr 1
    omega
  obtain ⟨g3, eg3⟩ : ∃ g3, g3 = xsI (xsI (xsI g2 4 2 a (g2.1 4 2 b)) 4 3 a ((xsI g2 4 2 a (g2.1 4 2 b)).1 4 3 b)) 4 4 a ((xsI (xsI g2 4 2 a (g2.1 4 2 b)) 4 3 a ((xsI g2 4 2 a (g2.1 4 2 b)).1 4 3 b)).1 4 4 b) := ⟨_, rfl⟩
  obtain ⟨g4, eg4⟩ : ∃ g4, g4 = xsA g3 20 a (va_cpy (g3.2.2.2.1 20 b) (g3.2.2.2.1 20 a) ((0 : Int32)).toNatClampNeg ((0 : Int32)).toNatClampNeg ((10 : Int32)).toNatClampNeg) := ⟨_, rfl⟩
  obtain ⟨g5, eg5⟩ : ∃ g5, g5 = xsA g4 21 a (va_cpy (g4.2.2.2.1 21 b) (g4.2.2.2.1 21 a) ((0 : Int32)).toNatClampNeg ((0 : Int32)).toNatClampNeg ((10 : Int32)).toNatClampNeg) := ⟨_, rfl⟩
  have run : f_Scene_copyFrom a b h = some g5 := by
    show (f_Told_copyFrom a b h).bind _ = _
    rw [e1, Option.bind_some, e2, Option.bind_some, eg5, eg4, eg3]
    rfl
  have i3 : ∀ c k i, ¬ (c = 4 ∧ i = a) → g3.1 c k i = g2.1 c k i := fun c k i hn => by rw [eg3, rdI_n hn, rdI_n hn, rdI_n hn]
  have i5 : g5.1 = g3.1 := by rw [eg5, eg4]; rfl
  have a3 : g3.2 = g2.2 := by rw [eg3]; rfl
  refine ⟨g5, run, fun k hk => ?_, fun k hk => ?_, ⟨?_, ?_, ?_⟩, fun f h1 h2 k hk => ?_, fun k hk => ?_, fun f h1 h2 k hk => ?_, fun f hf k hk => ?_, fun c k i hn => ?_, fun f i hn => ?_⟩
  · rw [i5, i3 8 k a (by omega), c2 8 k a (by omega)]; exact t1 k hk
  · rw [i5, i3 6 k a (by omega), c1 k hk, t2 6 k b (by omega)]
  · rw [i5, eg3, rdI (by decide), rdI (by decide), rdI_s, c2 4 2 b (by omega), t2 4 2 b (by omega)]
  · rw [i5, eg3, rdI (by decide), rdI_s, rdI (by decide), c2 4 3 b (by omega), t2 4 3 b (by omega)]
  · rw [i5, eg3, rdI_s, rdI (by decide), rdI (by decide), c2 4 4 b (by omega), t2 4 4 b (by omega)]
  · rw [eg5, rdA_n (by omega), eg4, rdA_n (by omega), a3, c4 f a (by omega)]; exact t3 f h1 h2 k hk
  · rw [eg5, rdA_n (by omega), eg4, rdA_n (by omega), a3, c4 41 a (by omega)]; exact t4 k hk
  · rw [eg5, rdA_n (by omega), eg4, rdA_n (by omega), a3, c3 f h1 h2 k hk, t5 f b (by omega)]
  · rcases hf with rfl | rfl
    · rw [eg5, rdA_n (by omega), eg4, rdA_s, cp _ _ k hk, a3, c4 20 b (by omega), t5 20 b (by omega)]
    · rw [eg5, rdA_s, cp _ _ k hk, eg4, rdA_n (by omega), a3, c4 21 b (by omega), t5 21 b (by omega)]
  · unfold scF at hn
    rw [i5, i3 c k i (by omega), c2 c k i (by omega), t2 c k i (by omega)]
  · unfold scA at hn
    rw [eg5, rdA_n (by omega), eg4, rdA_n (by omega), a3, c4 f i (by omega), t5 f i (by omega)]
