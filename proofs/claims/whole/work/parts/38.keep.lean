/-! PURE: an act kept: the reference's side -/
theorem xw_2 {β : Type} {f : Nat → Nat → β} {c k : Nat} {g g' : β} : xw (xw f c k g) c k g' = xw f c k g' := by
  funext x y
  by_cases hx : x = c <;> by_cases hy : y = k <;> simp [xw, hx, hy]
theorem xw_id {β : Type} {f : Nat → Nat → β} {c k : Nat} : xw f c k (f c k) = f := by
  funext x y
  by_cases hx : x = c <;> by_cases hy : y = k <;> simp [xw, hx, hy]
theorem xsA_2 {h : xH} {c i : Nat} {f g : Nat → Int32} : xsA (xsA h c i f) c i g = xsA h c i g := by
  show (h.1, h.2.1, h.2.2.1, xw (xw h.2.2.2.1 c i f) c i g, h.2.2.2.2) = _
  rw [xw_2]
  rfl
theorem xsA_id {h : xH} {c i : Nat} : xsA h c i (h.2.2.2.1 c i) = h := by
  show (h.1, h.2.1, h.2.2.1, xw h.2.2.2.1 c i (h.2.2.2.1 c i), h.2.2.2.2) = h
  rw [xw_id]
/-- the k first moved down by an act -/
def shA (A : Nat → Int32) (k : Nat) : Nat → Int32 := fun i => if i < k then A (i + 34) else A i
theorem shA_0 {A : Nat → Int32} : shA A 0 = A := rfl
theorem shA_s {A : Nat → Int32} {k : Nat} : upd (shA A k) k (shA A k (34 + k)) = shA A (k + 1) := by
  funext i
  by_cases hi : i = k
  · subst hi
    rw [pk_us]
    unfold shA
    rw [if_neg (by omega), if_pos (by omega), Nat.add_comm]
  · rw [pk_un hi]
    unfold shA
    by_cases h1 : i < k
    · rw [if_pos h1, if_pos (by omega)]
    · rw [if_neg h1, if_neg (by omega)]
/-- the k first of what is said now written behind u acts -/
def wrA (A S : Nat → Int32) (u k : Nat) : Nat → Int32 := fun i => if 34 * u ≤ i ∧ i < 34 * u + k then S (10 + (i - 34 * u)) else A i
theorem wrA_0 {A S : Nat → Int32} {u : Nat} : wrA A S u 0 = A := by
  funext i
  exact if_neg (by omega)
theorem wrA_s {A S : Nat → Int32} {u k : Nat} : upd (wrA A S u k) (34 * u + k) (S (10 + k)) = wrA A S u (k + 1) := by
  funext i
  by_cases hi : i = 34 * u + k
  · subst hi
    rw [pk_us]
    unfold wrA
    rw [if_pos (by omega), show 34 * u + k - 34 * u = k by omega]
  · rw [pk_un hi]
    unfold wrA
    by_cases h1 : 34 * u ≤ i ∧ i < 34 * u + k
    · rw [if_pos h1, if_pos (by omega)]
    · rw [if_neg h1, if_neg (by omega)]
theorem m_keep50 {h : xH} {u : Nat} (hu : h.1 12 24 0 = nI u) (u20 : u < 20) : f_M_keepsAct_b50 h = some (xsI (xsA h 57 0 (wrA (h.2.2.2.1 57 0) (mS h) u 34)) 12 24 0 (nI (u + 1))) := by
  have e0 : ((0 : Int32), h) = (fun k => (nI k, xsA h 57 0 (wrA (h.2.2.2.1 57 0) (mS h) u k))) 0 := by
    show ((0 : Int32), h) = (nI 0, xsA h 57 0 (wrA (h.2.2.2.1 57 0) (mS h) u 0))
    rw [wrA_0, xsA_id, nI_0]
  show whl (fun s => f_M_keepsAct_s52 s.1 s.2) ((0 : Int32), h) = _
  rw [e0]
  refine whl_cnt 34 (fun k => (nI k, xsA h 57 0 (wrA (h.2.2.2.1 57 0) (mS h) u k))) _ (fun k hk => ?_) ?_
  · show (if (34 : Int32) ≤ nI k then _ else if xib (10 + nI k) 101 then (if xib (34 * h.1 12 24 0 + nI k) 680 then some (Sum.inl (nI k + 1, xsA (xsA h 57 0 (wrA (h.2.2.2.1 57 0) (mS h) u k)) 57 0 (upd ((xsA h 57 0 (wrA (h.2.2.2.1 57 0) (mS h) u k)).2.2.2.1 57 0) (34 * h.1 12 24 0 + nI k).toNatClampNeg ((xsA h 57 0 (wrA (h.2.2.2.1 57 0) (mS h) u k)).2.2.2.1 56 0 ((10 : Int32) + nI k).toNatClampNeg)))) else none) else none) = some (Sum.inl (nI (k + 1), xsA h 57 0 (wrA (h.2.2.2.1 57 0) (mS h) u (k + 1))))
    have e34 : (34 : Int32) * nI u = nI (34 * u) := pk_mul 34 u
    rw [hu, e34, if_neg (show ¬ (34 : Int32) ≤ nI k from nI_ge (b := 34) hk (by decide)), if_pos (xibA (c := 10) (a := 10) rfl (by omega) (by decide)), if_pos (xibA rfl (by omega) (by decide)), ixA (c := 10) (a := 10) rfl (by omega), ixA rfl (by omega), xsA_2, rdA_s, rdA_n (by decide), wrA_s, nI_1]
  · show (if (34 : Int32) ≤ nI 34 then (some (xsI (xsA h 57 0 (wrA (h.2.2.2.1 57 0) (mS h) u 34)) 12 24 0 (h.1 12 24 0 + 1))).map Sum.inr else _) = _
    rw [if_pos (show (34 : Int32) ≤ nI 34 by decide), hu, nI_1]
    rfl
/-- an act kept: only the count and what was said have changed -/
def keptM (h h1 : xH) : Prop := (∀ c k i, ¬ (c = 12 ∧ k = 24) → h1.1 c k i = h.1 c k i) ∧ (∀ f i, ¬ f = 57 → h1.2.2.2.1 f i = h.2.2.2.1 f i) ∧ h1.2.2.1 = h.2.2.1 ∧ h1.2.2.2.2 = h.2.2.2.2 ∧ h1.2.1 = h.2.1
theorem m_keepsAct {h : xH} {u : Nat} (hu : h.1 12 24 0 = nI u) (u20 : u ≤ 20) : ∃ h1, f_M_keepsAct h = some h1 ∧ h1.1 12 24 0 = nI (min 20 (u + 1)) ∧ (∀ j, j < min 20 (u + 1) → paV h1 j = paAdd u (paV h) (mS h) j) ∧ keptM h h1 := by
  by_cases h20 : u = 20
  · subst h20
    have run : f_M_keepsAct h = some (xsI (xsA (xsI (xsA h 57 0 (shA (h.2.2.2.1 57 0) 646)) 12 24 0 (nI 19)) 57 0 (wrA (shA (h.2.2.2.1 57 0) 646) (mS h) 19 34)) 12 24 0 (nI 20)) := by
      show (if h.1 12 24 0 = 20 then whl (fun s => f_M_keepsAct_s12 s.1 s.2) ((34 : Int32), h) else _) = _
      rw [if_pos (show h.1 12 24 0 = (20 : Int32) from hu)]
      have e0 : ((34 : Int32), h) = (fun k => (nI (34 + k), xsA h 57 0 (shA (h.2.2.2.1 57 0) k))) 0 := by
        show ((34 : Int32), h) = (nI 34, xsA h 57 0 (h.2.2.2.1 57 0))
        rw [xsA_id]
        rfl
      rw [e0]
      refine whl_cnt 646 (fun k => (nI (34 + k), xsA h 57 0 (shA (h.2.2.2.1 57 0) k))) _ (fun k hk => ?_) ?_
      · show (if (680 : Int32) ≤ nI (34 + k) then _ else if xib (nI (34 + k)) 680 then (if xib (nI (34 + k) - 34) 680 then some (Sum.inl (nI (34 + k) + 1, xsA (xsA h 57 0 (shA (h.2.2.2.1 57 0) k)) 57 0 (upd ((xsA h 57 0 (shA (h.2.2.2.1 57 0) k)).2.2.2.1 57 0) (nI (34 + k) - 34).toNatClampNeg ((xsA h 57 0 (shA (h.2.2.2.1 57 0) k)).2.2.2.1 57 0 (nI (34 + k)).toNatClampNeg)))) else none) else none) = some (Sum.inl (nI (34 + (k + 1)), xsA h 57 0 (shA (h.2.2.2.1 57 0) (k + 1))))
        have e34 : nI (34 + k) - (34 : Int32) = nI k := by
          have := pk_sub (a := 34 + k) (b := 34) (by omega)
          rw [show 34 + k - 34 = k by omega] at this
          exact this
        rw [e34, if_neg (show ¬ (680 : Int32) ≤ nI (34 + k) from nI_ge (b := 680) (by omega) (by decide)), if_pos (xibN (by omega) (by decide)), if_pos (xibN (by omega) (by decide)), nI_clamp (by omega), nI_clamp (by omega), xsA_2, rdA_s, shA_s, nI_1]
        rfl
      · show (if (680 : Int32) ≤ nI 680 then (f_M_keepsAct_b50 (xsI (xsA h 57 0 (shA (h.2.2.2.1 57 0) 646)) 12 24 0 (h.1 12 24 0 - 1))).map Sum.inr else _) = _
        rw [if_pos (show (680 : Int32) ≤ nI 680 by decide), hu, nI_pred, m_keep50 (u := 19) rdI_s (by decide)]
        show some (Sum.inr (xsI (xsA (xsI (xsA h 57 0 (shA (h.2.2.2.1 57 0) 646)) 12 24 0 (nI 19)) 57 0 (wrA ((xsA h 57 0 (shA (h.2.2.2.1 57 0) 646)).2.2.2.1 57 0) (fun j => (xsA h 57 0 (shA (h.2.2.2.1 57 0) 646)).2.2.2.1 56 0 j) 19 34)) 12 24 0 (nI (19 + 1)))) = _
        rw [rdA_s, rdA_n (by decide)]
    refine ⟨_, run, rdI_s, fun j hj => ?_, fun c k i hn => by rw [rdI hn]; show (xsI _ 12 24 0 _).1 c k i = _; rw [rdI hn]; rfl, fun f i hf => ?_, rfl, rfl, rfl⟩
    · have hj : j < 20 := by omega
      funext t
      unfold paV paAdd
      rw [if_neg (show ¬ 20 < 20 by decide)]
      by_cases ht : 10 ≤ t ∧ t < 44
      · rw [if_pos ht]
        show (xsA _ 57 0 _).2.2.2.1 57 0 _ = _
        rw [rdA_s]
        by_cases hj9 : j < 19
        · rw [if_pos hj9]
          show _ = (if 10 ≤ t ∧ t < 44 then h.2.2.2.1 57 0 (34 * (j + 1) + (t - 10)) else _)
          rw [if_pos ht]
          unfold wrA shA
          rw [if_neg (by omega), if_pos (by omega), show 34 * j + (t - 10) + 34 = 34 * (j + 1) + (t - 10) by omega]
        · rw [if_neg hj9]
          unfold wrA
          rw [if_pos (by omega), show 10 + (34 * j + (t - 10) - 34 * 19) = t by omega]
      · rw [if_neg ht]
        show (xsA _ 57 0 _).2.2.2.1 56 0 t = _
        rw [rdA_n (by decide)]
        show (xsA h 57 0 _).2.2.2.1 56 0 t = _
        rw [rdA_n (by decide)]
        by_cases hj9 : j < 19
        · rw [if_pos hj9]
          exact (if_neg ht).symm
        · rw [if_neg hj9]
    · show (xsA _ 57 0 _).2.2.2.1 f i = _
      rw [rdA_n (by omega)]
      show (xsA h 57 0 _).2.2.2.1 f i = _
      rw [rdA_n (by omega)]
  · have hlt : u < 20 := by omega
    have run : f_M_keepsAct h = some (xsI (xsA h 57 0 (wrA (h.2.2.2.1 57 0) (mS h) u 34)) 12 24 0 (nI (u + 1))) := by
      show (if h.1 12 24 0 = 20 then _ else f_M_keepsAct_b50 h) = _
      rw [if_neg (by rw [hu]; exact fun z => h20 ((nI_eq (b := 20) (by omega) (by decide)).mp z)), m_keep50 hu hlt]
    refine ⟨_, run, by rw [rdI_s, Nat.min_eq_right (by omega)], fun j hj => ?_, fun c k i hn => by rw [rdI hn]; rfl, fun f i hf => ?_, rfl, rfl, rfl⟩
    · have hj : j < u + 1 := by omega
      funext t
      unfold paV paAdd
      rw [if_pos hlt]
      by_cases ht : 10 ≤ t ∧ t < 44
      · rw [if_pos ht]
        show (xsA _ 57 0 _).2.2.2.1 57 0 _ = _
        rw [rdA_s]
        by_cases hju : j < u
        · rw [if_pos hju]
          show _ = (if 10 ≤ t ∧ t < 44 then h.2.2.2.1 57 0 (34 * j + (t - 10)) else _)
          rw [if_pos ht]
          unfold wrA
          rw [if_neg (by omega)]
        · rw [if_neg hju]
          unfold wrA
          rw [if_pos (by omega), show 10 + (34 * j + (t - 10) - 34 * u) = t by omega]
      · rw [if_neg ht]
        show (xsA h 57 0 _).2.2.2.1 56 0 t = _
        rw [rdA_n (by decide)]
        by_cases hju : j < u
        · rw [if_pos hju]
          exact (if_neg ht).symm
        · rw [if_neg hju]
    · show (xsA h 57 0 _).2.2.2.1 f i = _
      rw [rdA_n (by omega)]
