/-! PURE: dusk -/
theorem st_some {W : Nat → Int32} {j k : Nat} (hj : j < 8) (hk : k < 8) : stV W (some j) (12 + k) = if k = j then (if W 1 < liT W j then 2 else 1) else W (12 + k) := by
  show upd (liV W j) 11 (W 11 + 1) (12 + k) = _
  rw [pk_un (by omega)]
  by_cases e : k = j
  · subst e
    rw [if_pos rfl, liV_12 hk]
  · rw [if_neg e, liV_o (by omega) (by omega) (by omega)]
theorem pc_set : ∀ B, B < 256 → ∀ k, k < 8 → B.testBit k = false → pc (B + 2 ^ k) = pc B + 1 := by decide +kernel
theorem isum_set {f : Nat → Int32} {p q : Nat → Bool} {j : Nat} (hp : p j = false) (hq : q j = true) : ∀ {n : Nat}, (∀ k, k < n → k ≠ j → q k = p k) → isum f q n = if j < n then isum f p n + f j else isum f p n
  | 0, _ => by rw [if_neg (by omega)]; rfl
  | n + 1, h => by
    have ih := isum_set (f := f) hp hq (n := n) (fun k hk => h k (by omega))
    show isum f q n + (if q n then f n else 0) = if j < n + 1 then isum f p n + (if p n then f n else 0) + f j else isum f p n + (if p n then f n else 0)
    by_cases e : n = j
    · subst e
      rw [ih, if_neg (show ¬ n < n by omega), if_pos (show n < n + 1 by omega), hp, hq]
      show isum f p n + f n = isum f p n + 0 + f n
      rw [Int32.add_zero]
    · rw [h n (by omega) e, ih]
      by_cases c : j < n
      · rw [if_pos c, if_pos (show j < n + 1 by omega), Int32.add_assoc, Int32.add_assoc, Int32.add_comm (f j)]
      · rw [if_neg c, if_neg (show ¬ j < n + 1 by omega)]
def duF (W' : Nat → Int32) (c : Option Nat) (b : Nat × Int32 × Int32) : Nat × Int32 × Int32 := match c with | none => b | some k => if vLb W' k = true then (b.1 + 1, b.2.1 + W' (52 + k), nI k) else b
def duS (V : Nat → Int32) (n : Nat) (rl : Option Nat) (cs : List Cl) : Nat → Nat × Int32 × Int32
  | 0 => (0, 0, -2)
  | i + 1 => duF (wlk V n rl cs (i + 1)) (chV (wlk V n rl cs i) n rl cs) (duS V n rl cs i)
theorem du_le {V : Nat → Int32} {n : Nat} {rl : Option Nat} {cs : List Cl} : ∀ i, (duS V n rl cs i).1 ≤ i
  | 0 => Nat.le_refl _
  | i + 1 => by
    have ih := du_le (V := V) (n := n) (rl := rl) (cs := cs) i
    show (duF (wlk V n rl cs (i + 1)) (chV (wlk V n rl cs i) n rl cs) (duS V n rl cs i)).1 ≤ i + 1
    unfold duF
    split
    · omega
    · split
      · show (duS V n rl cs i).1 + 1 ≤ i + 1
        omega
      · omega
/-- what is let be that wasn't -/
def gnV (V W : Nat → Int32) (k : Nat) : Bool := vLb W k && !vLb V k
theorem du_gn {V : Nat → Int32} {n : Nat} {rl : Option Nat} {cs : List Cl} (h8 : n ≤ 8) : ∀ i, (duS V n rl cs i).1 = pc (bs (gnV V (wlk V n rl cs i)) n) ∧ (duS V n rl cs i).2.1 = isum (fun k => V (52 + k)) (gnV V (wlk V n rl cs i)) n ∧ ∀ k, k < n → vIn (wlk V n rl cs i) k = true → vIn V k = true
  | 0 => by
    have e0 : ∀ k, k < n → gnV V V k = false := fun k _ => by
      unfold gnV
      cases vLb V k <;> rfl
    have e1 : bs (gnV V V) n = 0 := by
      have := bs_ext (p := gnV V V) (n := 0) n (Nat.zero_le _) (fun k _ hk => e0 k hk)
      exact this
    have e2 : isum (fun k => V (52 + k)) (gnV V V) n = 0 := by
      have := isum_ext (f := fun k => V (52 + k)) (p := gnV V V) (n := 0) n (Nat.zero_le _) (fun k _ hk => e0 k hk)
      exact this
    refine ⟨?_, ?_, fun k _ h => h⟩
    · show 0 = pc (bs (gnV V V) n)
      rw [e1, pc_z]
    · show 0 = isum (fun k => V (52 + k)) (gnV V V) n
      rw [e2]
  | i + 1 => by
    obtain ⟨a1, a2, a3⟩ := du_gn (V := V) (n := n) (rl := rl) (cs := cs) h8 i
    have eW : wlk V n rl cs (i + 1) = stV (wlk V n rl cs i) (chV (wlk V n rl cs i) n rl cs) := rfl
    have e52 : ∀ k, k < 8 → wlk V n rl cs (i + 1) (52 + k) = V (52 + k) := fun k hk => wlk_o h8 (by omega) (i + 1)
    show (duF (wlk V n rl cs (i + 1)) (chV (wlk V n rl cs i) n rl cs) (duS V n rl cs i)).1 = _ ∧ (duF (wlk V n rl cs (i + 1)) (chV (wlk V n rl cs i) n rl cs) (duS V n rl cs i)).2.1 = _ ∧ _
    generalize wlk V n rl cs (i + 1) = W' at eW e52 ⊢
    have hl := ch_lt (lo := vLoose (wlk V n rl cs i) n) (wo := woV (wlk V n rl cs i) n rl cs) n
    have hl : ∀ g, chV (wlk V n rl cs i) n rl cs = some g → g < n ∧ vLoose (wlk V n rl cs i) n g = true := hl
    generalize wlk V n rl cs i = W at a1 a2 a3 eW hl ⊢
    generalize chV W n rl cs = c at eW hl ⊢
    cases c with
    | none =>
      have e1 : vLb W' = vLb W := by rw [eW]; exact vLb_up
      have e2 : vIn W' = vIn W := by rw [eW]; exact vIn_up
      have e3 : gnV V W' = gnV V W := by
        funext k
        unfold gnV
        rw [e1]
      rw [e3, e2]
      exact ⟨a1, a2, a3⟩
    | some k =>
      obtain ⟨hk, hlo⟩ := hl k rfl
      have k8 : k < 8 := by omega
      have hin : vIn W k = true := by
        unfold vLoose at hlo
        rw [Bool.and_eq_true] at hlo
        exact hlo.1
      have hV := a3 k hk hin
      have s0 : W (12 + k) = 0 := of_decide_eq_true hin
      have v0 : V (12 + k) = 0 := of_decide_eq_true hV
      have l0 : vLb V k = false := by
        unfold vLb
        rw [v0]; decide
      have l1 : vLb W k = false := by
        unfold vLb
        rw [s0]; decide
      have g0 : gnV V W k = false := by
        unfold gnV
        rw [l1]; rfl
      have oth : ∀ j, j < n → j ≠ k → W' (12 + j) = W (12 + j) := fun j hj e => by
        rw [eW, st_some k8 (by omega), if_neg e]
      have gO : ∀ j, j < n → j ≠ k → gnV V W' j = gnV V W j := fun j hj e => by
        unfold gnV vLb
        rw [oth j hj e]
      have inn : ∀ j, j < n → vIn W' j = true → vIn V j = true := fun j hj h => by
        by_cases e : j = k
        · subst e; exact hV
        · unfold vIn at h
          rw [oth j hj e] at h
          exact a3 j hj h
      have tb : (bs (gnV V W) n).testBit k = false := by rw [bs_in hk]; exact g0
      show (if vLb W' k = true then ((duS V n rl cs i).1 + 1, (duS V n rl cs i).2.1 + W' (52 + k), nI k) else duS V n rl cs i).1 = _ ∧ (if vLb W' k = true then ((duS V n rl cs i).1 + 1, (duS V n rl cs i).2.1 + W' (52 + k), nI k) else duS V n rl cs i).2.1 = _ ∧ _
      by_cases q : vLb W' k = true
      · have g1 : gnV V W' k = true := by
          unfold gnV
          rw [q, l0]; rfl
        have b1 := bs_set g0 g1 (n := n) gO
        rw [if_pos hk] at b1
        have i1 := isum_set (f := fun k => V (52 + k)) g0 g1 (n := n) gO
        rw [if_pos hk] at i1
        rw [if_pos q, b1, i1, pc_set _ (bs_lt8 _ h8) k k8 tb, e52 k k8]
        exact ⟨by rw [a1], by rw [a2], inn⟩
      · have g1 : gnV V W' k = false := by
          unfold gnV
          rw [eq_false_of_ne_true q]; rfl
        have ge : ∀ j, j < n → gnV V W' j = gnV V W j := fun j hj => by
          by_cases e : j = k
          · subst e; rw [g1, g0]
          · exact gO j hj e
        rw [if_neg q, bs_congr ge, isum_congr (f' := fun k => V (52 + k)) (p' := gnV V W) (fun j hj => ⟨ge j hj, fun _ => rfl⟩)]
        exact ⟨a1, a2, inn⟩
/-- what is answered -/
def duR (V : Nat → Int32) (n : Nat) (rl : Option Nat) (cs : List Cl) (v : Int32) : Int32 := if v = 0 then nI (duS V n rl cs 100).1 else if v = 1 then (duS V n rl cs 100).2.1 else (duS V n rl cs 100).2.2
theorem c_dusk33 {h0 h : xH} {n : Nat} {V : Nat → Int32} {rl : Option Nat} {cs : List Cl} (v : Int32) (hst : stR h0 0 V n) (hw : wkA h V n rl cs) (f0 : wkF h0 h) : ∃ h2, f_B_dusk_l33 v (-2) 0 h = some (duR V n rl cs v, h2) ∧ wkF h0 h2 := by
  have h8 := hw.2.1.2.1
  have key := whl_cntE (step := fun s : Int32 × Int32 × xH => f_B_dusk_s33 v s.1 s.2.1 s.2.2) 100 (fun k s => s.1 = (duS V n rl cs k).2.2 ∧ s.2.1 = nI k ∧ wkA s.2.2 (wlk V n rl cs k) n rl cs ∧ wkF h0 s.2.2) (fun x => ∃ h2, x = (duR V n rl cs v, h2) ∧ wkF h0 h2) ?_ ?_ (-2, 0, h) ⟨rfl, nI_0.symm, hw, f0⟩
  · obtain ⟨x, e, h2, rfl, f⟩ := key
    exact ⟨h2, e, f⟩
  · rintro k hk ⟨q1, q2, g⟩ ⟨e1, e2, wg, f⟩
    have e1 : q1 = (duS V n rl cs k).2.2 := e1
    have e2 : q2 = nI k := e2
    subst e1; subst e2
    left
    obtain ⟨g2, eg2, w2, f2⟩ := c_goOn (h := g) wg
    have ff := wkF_trans f f2
    show ∃ s', f_B_dusk_s33 v (duS V n rl cs k).2.2 (nI k) g = some (Sum.inl s') ∧ s'.1 = (duF (wlk V n rl cs (k + 1)) (chV (wlk V n rl cs k) n rl cs) (duS V n rl cs k)).2.2 ∧ s'.2.1 = nI (k + 1) ∧ wkA s'.2.2 (wlk V n rl cs (k + 1)) n rl cs ∧ wkF h0 s'.2.2
    have w2 : wkA g2 (wlk V n rl cs (k + 1)) n rl cs := w2
    have lt := chV_lt (V := wlk V n rl cs k) (n := n) (rl := rl) (cs := cs)
    unfold f_B_dusk_s33
    rw [if_neg (show ¬ (100 : Int32) ≤ nI k from nI_ge (b := 100) hk (by decide)), eg2, Option.bind_some]
    cases hc : chV (wlk V n rl cs k) n rl cs with
    | none => exact ⟨_, rfl, rfl, nI_1 k, w2, ff⟩
    | some j =>
      have hj := lt j hc
      obtain ⟨⟨st, ⟨s1, -⟩, -⟩, -⟩ := id w2
      show ∃ s' : Int32 × Int32 × xH, (if nI j = -1 then f_B_dusk_b72 v (duS V n rl cs k).2.2 (nI k) g2 else (f_State_isLetBe 25 (nI j) g2).bind (fun r20 => if r20 = 0 then f_B_dusk_b72 v (duS V n rl cs k).2.2 (nI k) g2 else f_B_dusk_b72 v (nI j) (nI k) g2)) = some (Sum.inl s') ∧ s'.1 = (if vLb (wlk V n rl cs (k + 1)) j = true then ((duS V n rl cs k).1 + 1, (duS V n rl cs k).2.1 + wlk V n rl cs (k + 1) (52 + j), nI j) else duS V n rl cs k).2.2 ∧ _
      rw [if_neg (nI_nm1 (by omega)), c_isLetBe_in s1 h8 hj, Option.bind_some]
      by_cases q : vLb (wlk V n rl cs (k + 1)) j = true
      · rw [if_pos q, if_neg (by decide), if_pos q]
        exact ⟨_, rfl, rfl, nI_1 k, w2, ff⟩
      · rw [if_neg q, if_pos rfl, if_neg q]
        exact ⟨_, rfl, rfl, nI_1 k, w2, ff⟩
  · rintro ⟨q1, q2, g⟩ ⟨e1, e2, wg, f⟩
    have e1 : q1 = (duS V n rl cs 100).2.2 := e1
    have e2 : q2 = nI 100 := e2
    subst e1; subst e2
    obtain ⟨⟨st, ⟨s1, s2, -⟩, -⟩, -⟩ := id wg
    have s1 : stR g 25 (wlk V n rl cs 100) n := s1
    have s2 : twR g (wlk V n rl cs 100) n := s2
    obtain ⟨a1, a2, -⟩ := du_gn (V := V) (n := n) (rl := rl) (cs := cs) h8 100
    have e0 : g.1 6 3 0 = nI (bs (vLb V) n) := by
      rw [f.1 6 3 0 (by decide) (by decide)]; exact hst.2.2.2.1
    have eg : (g.1 6 3 25) &&& ((g.1 6 3 0) ^^^ (-1 : Int32)) = nI (bs (gnV V (wlk V n rl cs 100)) n) := by
      rw [s1.2.2.2.1, e0, sb_dif _ (bs_lt8 _ h8) _ (bs_lt8 _ h8)]
      congr 1
      apply Nat.eq_of_testBit_eq
      intro i
      rw [Nat.testBit_and, Nat.testBit_xor]
      by_cases hi : i < n
      · rw [bs_in hi, bs_in hi, bs_in hi]
        have d : ∀ i, i < 8 → Nat.testBit 255 i = true := by decide
        rw [d i (by omega)]
        unfold gnV
        cases vLb V i <;> cases vLb (wlk V n rl cs 100) i <;> rfl
      · rw [bs_hi (by omega), bs_hi (p := gnV V (wlk V n rl cs 100)) (by omega)]
        rfl
    refine ⟨_, ?_, g, rfl, f⟩
    show f_B_dusk_s33 v (duS V n rl cs 100).2.2 (nI 100) g = _
    unfold f_B_dusk_s33 f_B_dusk_b78 duR
    rw [if_pos (show (100 : Int32) ≤ nI 100 by decide), eg, xlet_e, c_bitCount (bs_lt8 _ h8), c_deepOf2 s2.2.2 h8 rfl, a1, a2, isum_congr (f := fun k => wlk V n rl cs 100 (52 + k)) (f' := fun k => V (52 + k)) (p := gnV V (wlk V n rl cs 100)) (p' := gnV V (wlk V n rl cs 100)) (fun k hk => ⟨rfl, fun _ => wlk_o h8 (by omega) 100⟩)]
    split
    · rfl
    · split
      · rfl
      · rfl
theorem m_dusk36 {h0 h : xH} {n : Nat} {rl : Option Nat} {cs : List Cl} (v : Int32) (hw : mwR h0 h (mS h0) (mS h0)) (hv : wOk (mS h0) n) (hf : h0.1 12 21 0 = oI rl) (hr : ∀ r, rl = some r → r < 6 ∧ mcR h0 r 0 0 cs) : ∃ h2, f_M_dusk_l36 v 0 0 (-2) 0 h = some (duR (mS h0) n rl cs v, h2) ∧ sameJ h0 h2 := by
  have h8 := hv.2.1
  have key := whl_cntE (step := fun s : Int32 × Int32 × Int32 × Int32 × xH => f_M_dusk_s36 v s.1 s.2.1 s.2.2.1 s.2.2.2.1 s.2.2.2.2) 100 (fun k s => s.1 = nI (duS (mS h0) n rl cs k).1 ∧ s.2.1 = (duS (mS h0) n rl cs k).2.1 ∧ s.2.2.1 = (duS (mS h0) n rl cs k).2.2 ∧ s.2.2.2.1 = nI k ∧ mwR h0 s.2.2.2.2 (mS h0) (wlk (mS h0) n rl cs k)) (fun x => ∃ h2, x = (duR (mS h0) n rl cs v, h2) ∧ sameJ h0 h2) ?_ ?_ (0, 0, -2, 0, h) ⟨nI_0.symm, rfl, rfl, nI_0.symm, hw⟩
  · obtain ⟨x, e, h2, rfl, f⟩ := key
    exact ⟨h2, e, f⟩
  · rintro k hk ⟨q1, q2, q3, q4, g⟩ ⟨e1, e2, e3, e4, wg⟩
    have e1 : q1 = nI (duS (mS h0) n rl cs k).1 := e1
    have e2 : q2 = (duS (mS h0) n rl cs k).2.1 := e2
    have e3 : q3 = (duS (mS h0) n rl cs k).2.2 := e3
    have e4 : q4 = nI k := e4
    subst e1; subst e2; subst e3; subst e4
    left
    obtain ⟨g2, eg2, w2⟩ := m_passW (h' := g) wg (wlk_ok hv k) hf hr
    have w2 : mwR h0 g2 (mS h0) (wlk (mS h0) n rl cs (k + 1)) := w2
    have eW : ∀ t, g2.2.2.2.1 56 0 t = wlk (mS h0) n rl cs (k + 1) t := fun t => congrFun w2.2.2.2 t
    have lt := chV_lt (V := wlk (mS h0) n rl cs k) (n := n) (rl := rl) (cs := cs)
    show ∃ s', f_M_dusk_s36 v (nI (duS (mS h0) n rl cs k).1) (duS (mS h0) n rl cs k).2.1 (duS (mS h0) n rl cs k).2.2 (nI k) g = some (Sum.inl s') ∧ s'.1 = nI (duF (wlk (mS h0) n rl cs (k + 1)) (chV (wlk (mS h0) n rl cs k) n rl cs) (duS (mS h0) n rl cs k)).1 ∧ s'.2.1 = (duF (wlk (mS h0) n rl cs (k + 1)) (chV (wlk (mS h0) n rl cs k) n rl cs) (duS (mS h0) n rl cs k)).2.1 ∧ s'.2.2.1 = (duF (wlk (mS h0) n rl cs (k + 1)) (chV (wlk (mS h0) n rl cs k) n rl cs) (duS (mS h0) n rl cs k)).2.2 ∧ s'.2.2.2.1 = nI (k + 1) ∧ mwR h0 s'.2.2.2.2 (mS h0) (wlk (mS h0) n rl cs (k + 1))
    unfold f_M_dusk_s36
    rw [if_neg (show ¬ (100 : Int32) ≤ nI k from nI_ge (b := 100) hk (by decide)), eg2, Option.bind_some]
    cases hc : chV (wlk (mS h0) n rl cs k) n rl cs with
    | none => exact ⟨_, rfl, rfl, rfl, rfl, nI_1 k, w2⟩
    | some j =>
      have hj := lt j hc
      have x12 : xib ((12 : Int32) + nI j) 101 := xibA (c := 12) (a := 12) rfl (by omega) (by decide)
      have x52 : xib ((52 : Int32) + nI j) 101 := xibA (c := 52) (a := 52) rfl (by omega) (by decide)
      show ∃ s', (if nI j < 0 then _ else if xib ((12 : Int32) + nI j) 101 then (if g2.2.2.2.1 56 0 ((12 : Int32) + nI j).toNatClampNeg = 1 then xlet (nI (duS (mS h0) n rl cs k).1 + 1) (fun v2_23 => if xib ((52 : Int32) + nI j) 101 then xlet ((duS (mS h0) n rl cs k).2.1 + g2.2.2.2.1 56 0 ((52 : Int32) + nI j).toNatClampNeg) (fun v3_25 => f_M_dusk_b91 v v2_23 v3_25 (nI j) (nI k) g2) else none) else f_M_dusk_b91 v (nI (duS (mS h0) n rl cs k).1) (duS (mS h0) n rl cs k).2.1 (duS (mS h0) n rl cs k).2.2 (nI k) g2) else none) = some (Sum.inl s') ∧ s'.1 = nI (if vLb (wlk (mS h0) n rl cs (k + 1)) j = true then ((duS (mS h0) n rl cs k).1 + 1, (duS (mS h0) n rl cs k).2.1 + wlk (mS h0) n rl cs (k + 1) (52 + j), nI j) else duS (mS h0) n rl cs k).1 ∧ s'.2.1 = (if vLb (wlk (mS h0) n rl cs (k + 1)) j = true then ((duS (mS h0) n rl cs k).1 + 1, (duS (mS h0) n rl cs k).2.1 + wlk (mS h0) n rl cs (k + 1) (52 + j), nI j) else duS (mS h0) n rl cs k).2.1 ∧ s'.2.2.1 = (if vLb (wlk (mS h0) n rl cs (k + 1)) j = true then ((duS (mS h0) n rl cs k).1 + 1, (duS (mS h0) n rl cs k).2.1 + wlk (mS h0) n rl cs (k + 1) (52 + j), nI j) else duS (mS h0) n rl cs k).2.2 ∧ _
      rw [if_neg (nI_pos (by omega)), if_pos x12, ixA (c := 12) (a := 12) rfl (by omega), eW]
      by_cases q : vLb (wlk (mS h0) n rl cs (k + 1)) j = true
      · rw [if_pos (of_decide_eq_true q), xlet_e, if_pos x52, ixA (c := 52) (a := 52) rfl (by omega), eW, if_pos q]
        exact ⟨_, rfl, nI_1 _, rfl, rfl, nI_1 k, w2⟩
      · rw [if_neg (fun z => q (decide_eq_true z)), if_neg q]
        exact ⟨_, rfl, rfl, rfl, rfl, nI_1 k, w2⟩
  · rintro ⟨q1, q2, q3, q4, g⟩ ⟨e1, e2, e3, e4, wg⟩
    have e1 : q1 = nI (duS (mS h0) n rl cs 100).1 := e1
    have e2 : q2 = (duS (mS h0) n rl cs 100).2.1 := e2
    have e3 : q3 = (duS (mS h0) n rl cs 100).2.2 := e3
    have e4 : q4 = nI 100 := e4
    subst e1; subst e2; subst e3; subst e4
    obtain ⟨h2, e2, j2, -⟩ := m_backW wg (fun t ht => wlk_o h8 ht 100)
    refine ⟨_, ?_, h2, rfl, j2⟩
    show f_M_dusk_s36 v (nI (duS (mS h0) n rl cs 100).1) (duS (mS h0) n rl cs 100).2.1 (duS (mS h0) n rl cs 100).2.2 (nI 100) g = _
    unfold f_M_dusk_s36 f_M_dusk_b97 duR
    have e2 : f_M_laysBack g = some h2 := e2
    rw [if_pos (show (100 : Int32) ≤ nI 100 by decide), e2, Option.bind_some]
    split
    · rfl
    · split
      · rfl
      · rfl
/-- dusk -/
theorem p_dusk : lI_dusk (jII Qr) := by
  intro v h hj
  obtain ⟨n, m, c, rl, cs, hsc, hf, hf4, hc, hr, hn⟩ := ask_pre hj
  obtain ⟨hv, ht, hst, -, -⟩ := id hsc
  obtain ⟨v0, -⟩ := id hv
  have cl : f_B_dusk v h = (if h.1 8 0 0 = 0 then some (-1, h) else if v < 0 then some (-1, h) else if v ≤ 2 then (f_B_startNow h).bind (fun h6 => f_B_dusk_l33 v (-2) 0 h6) else some (-1, h)) := rfl
  have rf : ∀ h1 : xH, f_M_dusk v h1 = (f_M_isTrug h1).bind (fun r1 => if r1 = 0 then some (-1, h1) else (f_M_in v.toInt64 0 2 h1).bind (fun r4 => if r4 = 0 then some (-1, h1) else (f_M_keeps h1).bind (fun h9 => f_M_dusk_l36 v 0 0 (-2) 0 h9))) := fun _ => rfl
  have mi : ∀ h1 : xH, f_M_in v.toInt64 0 2 h1 = some (if v < 0 ∨ 2 < v then 0 else 1) := fun h1 => m_in v 0 2 (by decide) (by decide)
  by_cases z : mS h 0 = 0
  · exact ⟨-1, h, h, by rw [cl, ht.1, if_pos z], by rw [rf, m_isTrug v0, Option.bind_some, if_pos z], hj⟩
  by_cases a0 : v < 0
  · exact ⟨-1, h, h, by rw [cl, ht.1, if_neg z, if_pos a0], by rw [rf, m_isTrug v0, Option.bind_some, if_neg z, mi, if_pos (Or.inl a0)]; rfl, hj⟩
  by_cases a1 : ¬ v ≤ 2
  · exact ⟨-1, h, h, by rw [cl, ht.1, if_neg z, if_neg a0, if_neg a1], by rw [rf, m_isTrug v0, Option.bind_some, if_neg z, mi, if_pos (Or.inr (Int32.not_le.mp a1))]; rfl, hj⟩
  have a1 : v ≤ 2 := Decidable.not_not.mp a1
  obtain ⟨g, eg, wg, fg⟩ := ask_start hsc hf4 hc hn
  obtain ⟨g1, eg1, f1⟩ := c_dusk33 v hst wg fg
  obtain ⟨eS, mf, mr⟩ := ask_mid f1 hf hr
  have hw := wOk_v hv
  obtain ⟨k1, ek1, wk1⟩ := m_keepW (h := g1)
  obtain ⟨k2, ek2, jk2⟩ := m_dusk36 v wk1 (by rw [eS]; exact hw) mf mr
  rw [eS] at ek2
  refine ⟨duR (mS h) n rl cs v, g1, k2, ?_, ?_, sameJ_jII Qr_ok (sameJ_trans (wkF_J f1) jk2) hj⟩
  · rw [cl, ht.1, if_neg z, if_neg a0, if_pos a1, eg, Option.bind_some, eg1]
  · rw [rf, m_isTrug (by rw [eS]; exact v0), Option.bind_some, eS, if_neg z, mi, if_neg (fun y => y.elim a0 (Int32.not_lt.mpr a1)), Option.bind_some, if_neg (by decide), ek1, Option.bind_some, ek2]
