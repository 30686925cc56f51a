/-! PURE: what lies under itself: two ways to close a relation over a set -/
def Sub (B C : Nat) : Prop := ∀ k, B.testBit k = true → C.testBit k = true
theorem Sub_refl (B : Nat) : Sub B B := fun _ h => h
theorem Sub_trans {A B C : Nat} (h1 : Sub A B) (h2 : Sub B C) : Sub A C := fun k h => h2 k (h1 k h)
theorem Sub_or {B C : Nat} (h : Sub B C) : B ||| C = C := by
  apply Nat.eq_of_testBit_eq
  intro k
  rw [Nat.testBit_or]
  cases hb : B.testBit k with
  | false => simp
  | true => rw [h k hb]; rfl
theorem Sub_andr {B C : Nat} : Sub (B &&& C) C := fun k h => by
  rw [Nat.testBit_and, Bool.and_eq_true] at h
  exact h.2
theorem bit_or {B C k : Nat} : (B ||| C).testBit k = true ↔ B.testBit k = true ∨ C.testBit k = true := by
  rw [Nat.testBit_or, Bool.or_eq_true]
theorem bit_hi {B k : Nat} (hB : B < 256) (h : B.testBit k = true) : k < 8 := by
  by_cases hk : k < 8
  · exact hk
  · rw [Nat.testBit_lt_two_pow (Nat.lt_of_lt_of_le hB (show 2 ^ 8 ≤ 2 ^ k from Nat.pow_le_pow_right (by decide) (by omega)))] at h
    cases h
/-- one round of the reference -/
def rfF (U : Nat → Nat) (S : Nat) (o B : Nat) : Nat := if B.testBit o = true then B ||| (U o &&& S) else B
def rfO (U : Nat → Nat) (S n B : Nat) : Nat := fold (rfF U S) B n
theorem rfF_mono (U : Nat → Nat) (S o B : Nat) : Sub B (rfF U S o B) := fun k h => by
  unfold rfF
  split
  · exact bit_or.mpr (Or.inl h)
  · exact h
theorem rf_mono (U : Nat → Nat) (S B : Nat) {k : Nat} : ∀ d, Sub (fold (rfF U S) B k) (fold (rfF U S) B (k + d))
  | 0 => Sub_refl _
  | d + 1 => Sub_trans (rf_mono U S B d) (rfF_mono U S (k + d) _)
theorem rfO_mono (U : Nat → Nat) (S n B : Nat) : Sub B (rfO U S n B) := by
  have := rf_mono U S B (k := 0) n
  rw [Nat.zero_add] at this
  exact this
theorem rfO_fix {U : Nat → Nat} {S n B : Nat} (h : rfO U S n B = B) {o : Nat} (ho : o < n) (hb : B.testBit o = true) : Sub (U o &&& S) B := by
  have h0 : Sub B (fold (rfF U S) B o) := by
    have := rf_mono U S B (k := 0) o
    rw [Nat.zero_add] at this
    exact this
  have h1 : Sub (fold (rfF U S) B (o + 1)) B := by
    have := rf_mono U S B (k := o + 1) (n - (o + 1))
    rw [show o + 1 + (n - (o + 1)) = n by omega] at this
    have e : fold (rfF U S) B n = B := h
    rw [e] at this
    exact this
  have h2 : fold (rfF U S) B (o + 1) = fold (rfF U S) B o ||| (U o &&& S) := if_pos (h0 o hb)
  rw [h2] at h1
  exact fun k hk => h1 k (bit_or.mpr (Or.inr hk))
theorem rfO_in {U : Nat → Nat} {S P : Nat} (hP : ∀ o, P.testBit o = true → Sub (U o &&& S) P) : ∀ (n : Nat) {B : Nat}, Sub B P → Sub (rfO U S n B) P
  | 0, _, h => h
  | n + 1, B, h => by
    have ih := rfO_in hP n h
    show Sub (rfF U S n (rfO U S n B)) P
    unfold rfF
    split
    · next hb =>
      intro k hk
      rcases bit_or.mp hk with h1 | h1
      · exact ih k h1
      · exact hP n (ih n hb) k h1
    · exact ih
theorem rfO_lt {U : Nat → Nat} {S : Nat} (hS : S < 256) : ∀ (n : Nat) {B : Nat}, B < 256 → rfO U S n B < 256
  | 0, _, h => h
  | n + 1, B, h => by
    have ih := rfO_lt (U := U) hS n h
    show rfF U S n (rfO U S n B) < 256
    unfold rfF
    split
    · exact or_lt8 ih (and_lt8 hS)
    · exact ih
/-- all that k lies under, by the reference -/
def rfG (U : Nat → Nat) (S n k : Nat) (t : Nat) : Nat := fold (fun _ B => rfO U S n B) (U k &&& S) t
theorem rfG_lt {U : Nat → Nat} {S n k : Nat} (hS : S < 256) : ∀ t, rfG U S n k t < 256
  | 0 => and_lt8 hS
  | t + 1 => rfO_lt hS n (rfG_lt hS t)
theorem rfG_in {U : Nat → Nat} {S n k P : Nat} (hP : ∀ o, P.testBit o = true → Sub (U o &&& S) P) (h : Sub (U k &&& S) P) : ∀ t, Sub (rfG U S n k t) P
  | 0 => h
  | t + 1 => rfO_in hP n (rfG_in hP h t)
theorem rfG_0 {U : Nat → Nat} {S n k : Nat} : ∀ t, Sub (U k &&& S) (rfG U S n k t)
  | 0 => Sub_refl _
  | t + 1 => Sub_trans (rfG_0 t) (rfO_mono U S n _)
theorem rfG_closed {U : Nat → Nat} {S n k : Nat} (hS : S < 256) (hSn : ∀ o, S.testBit o = true → o < n) {o : Nat} (ho : (rfG U S n k 8).testBit o = true) : Sub (U o &&& S) (rfG U S n k 8) := by
  have inS : ∀ t, Sub (rfG U S n k t) S := rfG_in (fun _ _ => Sub_andr) Sub_andr
  have key : ∀ t, rfO U S n (rfG U S n k t) = rfG U S n k t ∨ t + pc (rfG U S n k 0) ≤ pc (rfG U S n k t) := by
    intro t
    induction t with
    | zero => exact Or.inr (by omega)
    | succ t ih =>
      have e : rfG U S n k (t + 1) = rfO U S n (rfG U S n k t) := rfl
      by_cases hf : rfO U S n (rfG U S n k t) = rfG U S n k t
      · refine Or.inl ?_
        rw [e, hf, hf]
      · rcases ih with ih | ih
        · exact absurd ih hf
        · refine Or.inr ?_
          have := pc_sub (rfG U S n k t) (rfG_lt hS t) (rfG U S n k (t + 1)) (rfG_lt hS (t + 1)) (Sub_or (rfO_mono U S n _)) (fun z => hf (e ▸ z.symm))
          omega
  rcases key 8 with h | h
  · exact rfO_fix h (hSn o (inS 8 o ho)) ho
  · have h8 := pc_le _ (rfG_lt (U := U) (n := n) (k := k) hS 8)
    have e0 : rfG U S n k 0 = 0 := pc_0 _ (rfG_lt hS 0) (by omega)
    have : Sub (rfG U S n k 8) 0 := rfG_in (fun o ho => by rw [Nat.zero_testBit] at ho; cases ho) (by
      have e1 : U k &&& S = 0 := e0
      rw [e1]
      exact Sub_refl _) 8
    have := this o ho
    rw [Nat.zero_testBit] at this
    cases this
/-- the class's rows: through ever more between -/
def wrV (v : Nat) (r : Nat → Nat) : Nat → Nat := fun i => if (r i).testBit v = true then r i ||| r v else r i
def wsR (U : Nat → Nat) (S : Nat) : Nat → Nat → Nat
  | 0 => fun i => if S.testBit i = true then U i &&& S else 0
  | v + 1 => wrV v (wsR U S v)
theorem wrV_mem {v : Nat} {r : Nat → Nat} {i j : Nat} : (wrV v r i).testBit j = true ↔ (r i).testBit j = true ∨ ((r i).testBit v = true ∧ (r v).testBit j = true) := by
  unfold wrV
  split
  · next h =>
    rw [bit_or]
    exact ⟨fun z => z.imp id (fun q => ⟨h, q⟩), fun z => z.imp id (fun q => q.2)⟩
  · next h => exact ⟨Or.inl, fun z => z.elim id (fun q => absurd q.1 h)⟩
theorem wsR_lt {U : Nat → Nat} {S : Nat} (hS : S < 256) : ∀ v i, wsR U S v i < 256
  | 0, i => by
    show (if S.testBit i = true then U i &&& S else 0) < 256
    split
    · exact and_lt8 hS
    · decide
  | v + 1, i => by
    show wrV v (wsR U S v) i < 256
    unfold wrV
    split
    · exact or_lt8 (wsR_lt hS v i) (wsR_lt hS v v)
    · exact wsR_lt hS v i
theorem wsR_0 {U : Nat → Nat} {S i : Nat} : ∀ v, Sub (wsR U S 0 i) (wsR U S v i)
  | 0 => Sub_refl _
  | v + 1 => fun j h => wrV_mem.mpr (Or.inl (wsR_0 v j h))
theorem wsR_tr {U : Nat → Nat} {S : Nat} : ∀ v i k j, k < v → (wsR U S v i).testBit k = true → (wsR U S v k).testBit j = true → (wsR U S v i).testBit j = true
  | 0, _, _, _, h, _, _ => absurd h (by omega)
  | v + 1, i, k, j, hk, h1, h2 => by
    have ih := wsR_tr (U := U) (S := S) v
    have h1' := wrV_mem.mp h1
    have h2' := wrV_mem.mp h2
    refine wrV_mem.mpr ?_
    by_cases hkv : k = v
    · subst hkv
      have a : (wsR U S k i).testBit k = true := h1'.elim id (fun q => q.1)
      have b : (wsR U S k k).testBit j = true := h2'.elim id (fun q => q.2)
      exact Or.inr ⟨a, b⟩
    · have kv : k < v := by omega
      rcases h1' with a | ⟨a1, a2⟩
      · rcases h2' with b | ⟨b1, b2⟩
        · exact Or.inl (ih i k j kv a b)
        · exact Or.inr ⟨ih i k v kv a b1, b2⟩
      · rcases h2' with b | ⟨b1, b2⟩
        · exact Or.inr ⟨a1, ih v k j kv a2 b⟩
        · exact Or.inr ⟨a1, b2⟩
theorem wsR_in {U : Nat → Nat} {S : Nat} {T : Nat → Nat → Prop} (hT : ∀ i j k, T i j → T j k → T i k) (h0 : ∀ i j, (wsR U S 0 i).testBit j = true → T i j) : ∀ v i j, (wsR U S v i).testBit j = true → T i j
  | 0, i, j, h => h0 i j h
  | v + 1, i, j, h => by
    rcases wrV_mem.mp h with a | ⟨a, b⟩
    · exact wsR_in hT h0 v i j a
    · exact hT i v j (wsR_in hT h0 v i v a) (wsR_in hT h0 v v j b)
theorem ws_rf {U : Nat → Nat} {S n k j : Nat} (hS : S < 256) (hSn : ∀ o, S.testBit o = true → o < n) : (wsR U S 8 k).testBit j = (S.testBit k && (rfG U S n k 8).testBit j) := by
  have m0 : ∀ i j, (wsR U S 0 i).testBit j = true → S.testBit i = true ∧ (U i &&& S).testBit j = true := by
    intro i j h
    by_cases hi : S.testBit i = true
    · have e : wsR U S 0 i = U i &&& S := if_pos hi
      rw [e] at h
      exact ⟨hi, h⟩
    · have e : wsR U S 0 i = 0 := if_neg hi
      rw [e, Nat.zero_testBit] at h
      cases h
  have fwd : (wsR U S 8 k).testBit j = true → S.testBit k = true ∧ (rfG U S n k 8).testBit j = true := by
    refine wsR_in (T := fun i j => S.testBit i = true ∧ (rfG U S n i 8).testBit j = true) (fun a b c h1 h2 => ⟨h1.1, ?_⟩) (fun a b h => ⟨(m0 a b h).1, rfG_0 8 b (m0 a b h).2⟩) 8 k j
    exact rfG_in (fun o ho => rfG_closed hS hSn ho) (rfG_closed hS hSn h1.2) 8 c h2.2
  have bwd : S.testBit k = true → (rfG U S n k 8).testBit j = true → (wsR U S 8 k).testBit j = true := by
    intro hk
    have ek : ∀ i, S.testBit i = true → wsR U S 0 i = U i &&& S := fun i hi => if_pos hi
    have inS : ∀ i j, (wsR U S 8 i).testBit j = true → S.testBit j = true := wsR_in (T := fun _ j => S.testBit j = true) (fun _ _ _ _ h => h) (fun a b h => Sub_andr b (m0 a b h).2) 8
    refine rfG_in (P := wsR U S 8 k) (fun o ho => ?_) ?_ 8 j
    · intro q hq
      have o8 := bit_hi (wsR_lt hS 8 k) ho
      refine wsR_tr 8 k o q o8 ho (wsR_0 8 q ?_)
      rw [ek o (inS k o ho)]
      exact hq
    · have := wsR_0 (U := U) (S := S) (i := k) 8
      rw [ek k hk] at this
      exact this
  cases h : (wsR U S 8 k).testBit j with
  | true => rw [(fwd h).1, (fwd h).2]; rfl
  | false =>
    cases hk : S.testBit k with
    | false => rfl
    | true =>
      cases hr : (rfG U S n k 8).testBit j with
      | false => rfl
      | true => rw [bwd hk hr] at h; cases h
/-- the rings, as bits -/
def rgB (U : Nat → Nat) (S n : Nat) : Nat := bs (fun k => S.testBit k && (rfG U S n k 8).testBit k) n
theorem rgB_ws {U : Nat → Nat} {S n : Nat} (hS : S < 256) (h8 : n ≤ 8) (hSn : ∀ o, S.testBit o = true → o < n) : bs (fun k => (wsR U S 8 k).testBit k) 8 = rgB U S n := by
  have e : (fun k => (wsR U S 8 k).testBit k) = (fun k => S.testBit k && (rfG U S n k 8).testBit k) := funext fun k => ws_rf hS hSn
  rw [e]
  refine bs_ext 8 h8 (fun k h1 _ => ?_)
  cases hk : S.testBit k with
  | false => rfl
  | true => exact absurd (hSn k hk) (by omega)
