/-! PURE: the class's walk goes on -/
theorem up_up {V : Nat → Int32} {x y a b : Int32} : upd (upd (upd (upd V 10 x) 11 y) 10 a) 11 b = upd (upd V 10 a) 11 b := by
  funext t
  by_cases h1 : t = 11
  · subst h1; rw [pk_us, pk_us]
  · rw [pk_un h1, pk_un h1]
    by_cases h2 : t = 10
    · subst h2; rw [pk_us, pk_us]
    · rw [pk_un h2, pk_un h2, pk_un h1, pk_un h2]
theorem up_id {V : Nat → Int32} : upd (upd V 10 (V 10)) 11 (V 11) = V := by
  rw [upd_id]
  exact upd_id
theorem vIn_up {V : Nat → Int32} {a b : Int32} : vIn (upd (upd V 10 a) 11 b) = vIn V := by
  funext k
  unfold vIn
  rw [pk_un (by omega), pk_un (by omega)]
theorem vLb_up {V : Nat → Int32} {a b : Int32} : vLb (upd (upd V 10 a) 11 b) = vLb V := by
  funext k
  unfold vLb
  rw [pk_un (by omega), pk_un (by omega)]
theorem vLoose_up {V : Nat → Int32} {n : Nat} {a b : Int32} : vLoose (upd (upd V 10 a) 11 b) n = vLoose V n := by
  funext k
  unfold vLoose
  rw [vIn_up, pk_un (by omega), pk_un (by omega)]
theorem wV_up {V : Nat → Int32} {n k : Nat} {a b : Int32} (v : Nat) (h7 : v ≠ 7) (h10 : v ≠ 10) (h11 : v ≠ 11) : wV (upd (upd V 10 a) 11 b) n k v = wV V n k v := by
  have o : ∀ t, t ≠ 10 → t ≠ 11 → upd (upd V 10 a) 11 b t = V t := fun t h1 h2 => by rw [pk_un h2, pk_un h1]
  have e1 : (fun k => upd (upd V 10 a) 11 b (28 + k)) = fun k => V (28 + k) := funext fun j => o _ (by omega) (by omega)
  have e2 : (fun k => upd (upd V 10 a) 11 b (52 + k)) = fun k => V (52 + k) := funext fun j => o _ (by omega) (by omega)
  have e3 : ovV (upd (upd V 10 a) 11 b) n k = ovV V n k := by
    unfold ovV uV
    rw [vIn_up]
    have : (fun o => vIn V o && (upd (upd V 10 a) 11 b (36 + o)).toNatClampNeg.testBit k) = fun o => vIn V o && (V (36 + o)).toNatClampNeg.testBit k := funext fun j => by rw [o (36 + j) (by omega) (by omega)]
    rw [this]
  unfold wV
  rw [vIn_up, vLb_up, vLoose_up, e1, e2, e3, o (28 + k) (by omega) (by omega), o (44 + k) (by omega) (by omega), o (52 + k) (by omega) (by omega), o 2 (by decide) (by decide), if_neg h7, if_neg h10, if_neg h11, if_neg h7, if_neg h10, if_neg h11]
/-- nothing is lifted any more, however long it goes on -/
def stl (V : Nat → Int32) (n : Nat) (rl : Option Nat) (cs : List Cl) : Prop := ∀ a b, chV (upd (upd V 10 a) 11 b) n rl cs = none
theorem stl_0 {V : Nat → Int32} {n : Nat} {rl : Option Nat} {cs : List Cl} (h : bs (vLoose V n) n = 0) : stl V n rl cs := by
  intro a b
  unfold chV
  rw [vLoose_up, fold_ext (n := 0) n (Nat.zero_le _) (fun k _ hk t => chF_f (by
    have := bs_in (p := vLoose V n) hk
    rw [h, Nat.zero_testBit] at this
    exact this.symm))]
  rfl
theorem stl_r {V : Nat → Int32} {n r : Nat} {cs : List Cl} (h : chV V n (some r) cs = none) (hn : noAsk cs) : stl V n (some r) cs := by
  intro a b
  have e : woV (upd (upd V 10 a) 11 b) n (some r) cs = woV V n (some r) cs := funext fun k => wrt_w (fun v h7 h10 h11 => wV_up v h7 h10 h11) hn
  unfold chV at h ⊢
  rw [vLoose_up, e]
  exact h
theorem stl_st {V : Nat → Int32} {n : Nat} {rl : Option Nat} {cs : List Cl} (h : stl V n rl cs) : stl (stV V none) n rl cs := by
  intro a b
  show chV (upd (upd (upd (upd V 10 (gbT V 1)) 11 (V 11 + 1)) 10 a) 11 b) n rl cs = none
  rw [up_up]
  exact h a b
theorem stl_c {V : Nat → Int32} {n : Nat} {rl : Option Nat} {cs : List Cl} (h : stl V n rl cs) : chV V n rl cs = none := by
  have := h (V 10) (V 11)
  rw [up_id] at this
  exact this
/-! the least of a set -/
def h00 : xH := (fun _ _ _ => 0, fun _ _ _ => 0, fun _ _ _ => none, fun _ _ _ => 0, fun _ _ _ => 0)
def tzN (L : Nat) : Nat := ((fold (chF (fun k => L.testBit k) (fun _ => 1)) (0, none) 8).2).getD 9
theorem tz_e : ∀ L, L < 256 → L ≠ 0 → f_Integer_numberOfTrailingZeros (nI L) h00 = some (nI (tzN L)) ∧ (fold (chF (fun k => L.testBit k) (fun _ => 1)) (0, none) 8).2 = some (tzN L) := by decide +kernel
theorem c_leastOf {h : xH} {L : Nat} (hL : L < 256) (h0 : L ≠ 0) : f_Walk_leastOf (nI L) h = some (nI (tzN L)) := by
  have e : f_Walk_leastOf (nI L) h = (f_Integer_numberOfTrailingZeros (nI L) h00).bind (fun r1 => some r1) := rfl
  rw [e, (tz_e L hL h0).1]
  rfl
theorem ch_none {V : Nat → Int32} {n : Nat} {cs : List Cl} (h8 : n ≤ 8) (h0 : bs (vLoose V n) n ≠ 0) : chV V n none cs = some (tzN (bs (vLoose V n) n)) := by
  have x1 : fold (chF (fun k => (bs (vLoose V n) n).testBit k) (fun _ => 1)) (0, none) 8 = fold (chF (fun k => (bs (vLoose V n) n).testBit k) (fun _ => 1)) (0, none) n := fold_ext 8 h8 (fun k h1 _ t => chF_f (bs_hi h1))
  have x2 : fold (chF (fun k => (bs (vLoose V n) n).testBit k) (fun _ => 1)) (0, none) n = fold (chF (vLoose V n) (woV V n none cs)) (0, none) n := fold_congr (fun k hk t => by
    have x3 : (bs (vLoose V n) n).testBit k = vLoose V n k := bs_in hk
    cases hc : vLoose V n k with
    | false => rw [chF_f hc, chF_f (x3.trans hc)]
    | true => rw [chF_t hc, chF_t (x3.trans hc)]; rfl)
  have := (tz_e _ (bs_lt8 (vLoose V n) h8) h0).2
  rw [x1, x2] at this
  exact this
/-! the walk -/
def wkR (h : xH) (V : Nat → Int32) (n : Nat) (rl : Option Nat) (st : Int32) : Prop := stR h 25 V n ∧ twR h V n ∧ h.2.2.1 10 3 0 = some 0 ∧ h.2.2.1 10 4 0 = rl ∧ h.1 10 1 0 = st
def wkF (h h' : xH) : Prop := (∀ c k i, ¬ c = 10 → ¬ (c = 6 ∧ i = 25) → h'.1 c k i = h.1 c k i) ∧ ∀ f i, ¬ (29 ≤ f ∧ f ≤ 32 ∧ i = 25) → h'.2.2.2.1 f i = h.2.2.2.1 f i
theorem wkF_refl (h : xH) : wkF h h := ⟨fun _ _ _ _ _ => rfl, fun _ _ _ => rfl⟩
theorem wkF_trans {h h1 h2 : xH} (a : wkF h h1) (b : wkF h1 h2) : wkF h h2 := ⟨fun c k i p q => (b.1 c k i p q).trans (a.1 c k i p q), fun f i q => (b.2 f i q).trans (a.2 f i q)⟩
theorem wkF_J {h h' : xH} (a : wkF h h') : sameJ h h' := ⟨fun c k i q => a.1 c k i (by unfold jF at q; omega) (by unfold jF at q; omega), fun f i q => a.2 f i (by unfold jG at q; omega)⟩
/-- the rule as the class has it -/
def clR (h : xH) (rl : Option Nat) (cs : List Cl) : Prop := ∀ r, rl = some r → r < 6 ∧ ccR h r 0 0 cs ∧ (h.1 2 3 r = 0 → noAsk cs)
theorem clR_of {h h' : xH} {rl : Option Nat} {cs : List Cl} (e1 : ∀ k r, h'.1 2 k r = h.1 2 k r) (e2 : ∀ r, h'.2.2.2.1 18 r = h.2.2.2.1 18 r) (hc : clR h rl cs) : clR h' rl cs := fun r hr => ⟨(hc r hr).1, ccR_of (e1 2 r) (e2 r) (hc r hr).2.1, fun z => (hc r hr).2.2 (by rw [← e1]; exact z)⟩
theorem c_chosenNow {h : xH} {n : Nat} {V : Nat → Int32} {rl : Option Nat} {cs : List Cl} (hv : wOk V n) (hw : wkR h V n rl 0) (hc : clR h rl cs) : ∃ h2 st', f_Walk_chosenNow h = some (oI (chV V n rl cs), h2) ∧ wkR h2 V n rl st' ∧ (st' = 0 ∨ (st' = 1 ∧ stl V n rl cs)) ∧ wkF h h2 := by
  have h8 := hv.2.1
  have pL := bs_lt8 (vLoose V n) h8
  obtain ⟨w1, w2, w3, w4, w5⟩ := id hw
  have up : ∀ (g : xH) (t : Int32), cgF h g → wkR (xsI g 10 1 0 t) V n rl t ∧ wkF h (xsI g 10 1 0 t) := by
    intro g t f
    refine ⟨⟨stR_of (fun k _ => by rw [rdI (by omega), f.1]) (fun a _ _ k _ => by show g.2.2.2.1 a 25 k = _; rw [f.2.2]) w1, ⟨?_, ?_, fun k hk => ?_⟩, ?_, ?_, rdI_s⟩, fun c k i p q => by rw [rdI (by omega), f.1], fun a i q => by show g.2.2.2.1 a i = _; rw [f.2.2]⟩
    · rw [rdI (by decide), f.1]; exact w2.1
    · rw [rdI (by decide), f.1]; exact w2.2.1
    · show g.2.2.2.1 39 0 k = _
      rw [f.2.2]; exact w2.2.2 k hk
    · show g.2.2.1 10 3 0 = _
      rw [f.2.1]; exact w3
    · show g.2.2.1 10 4 0 = _
      rw [f.2.1]; exact w4
  have cl : f_Walk_chosenNow h = (f_State_looseBits 25 h).bind (fun r1 => if r1 = 0 then some (-1, xsI h 10 1 0 1) else if h.2.2.1 10 4 0 = none then (f_Walk_leastOf r1 h).bind (fun r7 => some (r7, h)) else (f_Walk_chosenOf r1 h).bind (fun q11 => if q11.1 = -1 then (q11.2.2.2.1 10 4 0).bind (fun i913 => if q11.2.1 2 3 i913 = 0 then f_Walk_chosenNow_b58 q11.1 1 q11.2 else f_Walk_chosenNow_b57 q11.1 q11.2) else f_Walk_chosenNow_b57 q11.1 q11.2)) := rfl
  rw [cl, c_looseBits w1 h8, Option.bind_some]
  have b58 : ∀ v2 g, f_Walk_chosenNow_b58 v2 1 g = some (v2, xsI g 10 1 0 1) := fun _ _ => rfl
  have b57 : ∀ v2 g, f_Walk_chosenNow_b57 v2 g = some (v2, xsI g 10 1 0 0) := fun _ _ => rfl
  by_cases h0 : bs (vLoose V n) n = 0
  · rw [h0, if_pos nI_0]
    have s0 : stl V n rl cs := stl_0 h0
    have u := up h 1 ⟨rfl, rfl, rfl⟩
    exact ⟨_, 1, by rw [stl_c s0]; rfl, u.1, Or.inr ⟨rfl, s0⟩, u.2⟩
  rw [if_neg (nI_ne0 (by omega) (by omega)), w4]
  cases rl with
  | none =>
    rw [if_pos rfl, c_leastOf pL h0]
    exact ⟨h, 0, by rw [ch_none h8 h0]; rfl, hw, Or.inl rfl, wkF_refl h⟩
  | some r =>
    obtain ⟨r6, hcc, hna⟩ := hc r rfl
    obtain ⟨g, eg, f⟩ := c_chosenOf hv w1 w2 w3 w4 hcc
    rw [if_neg (by simp), eg, Option.bind_some]
    show ∃ h2 st', (if oI (chV V n (some r) cs) = -1 then (g.2.2.1 10 4 0).bind _ else _) = _ ∧ _
    have u0 := up g 0 f
    by_cases c : chV V n (some r) cs = none
    · rw [c, if_pos (show oI none = -1 from rfl), f.2.1, w4, Option.bind_some, f.1]
      by_cases q : h.1 2 3 r = 0
      · rw [if_pos q]
        have u := up g 1 f
        exact ⟨_, 1, b58 _ _, u.1, Or.inr ⟨rfl, stl_r c (hna q)⟩, u.2⟩
      · rw [if_neg q]
        exact ⟨_, 0, b57 _ _, u0.1, Or.inl rfl, u0.2⟩
    · have hlt : ∀ g, chV V n (some r) cs = some g → g < 256 := fun g hg => by have := (ch_lt n g hg).1; omega
      rw [if_neg (fun z => c ((oI_m1 hlt).mp z))]
      exact ⟨_, 0, b57 _ _, u0.1, Or.inl rfl, u0.2⟩
/-- the walk stands at V -/
def wkA (h : xH) (V : Nat → Int32) (n : Nat) (rl : Option Nat) (cs : List Cl) : Prop := (∃ st, wkR h V n rl st ∧ (st = 0 ∨ (st = 1 ∧ stl V n rl cs))) ∧ wOk V n ∧ clR h rl cs
theorem c_goOn {h : xH} {n : Nat} {V : Nat → Int32} {rl : Option Nat} {cs : List Cl} (hw : wkA h V n rl cs) : ∃ h2, f_Walk_goOn h = some (oI (chV V n rl cs), h2) ∧ wkA h2 (stV V (chV V n rl cs)) n rl cs ∧ wkF h h2 := by
  obtain ⟨⟨st, hr, hst⟩, hv, hc⟩ := hw
  have h8 := hv.2.1
  have lt := ch_lt (lo := vLoose V n) (wo := woV V n rl cs) n
  -- what is left when it is chosen
  have b15 : ∀ (g : xH) (st' : Int32), wkR g V n rl st' → (st' = 0 ∨ (st' = 1 ∧ stl V n rl cs)) → wkF h g → ∃ h2, f_Walk_goOn_b15 (oI (chV V n rl cs)) g = some (oI (chV V n rl cs), h2) ∧ wkA h2 (stV V (chV V n rl cs)) n rl cs ∧ wkF h h2 := by
    intro g st' hg hs' fg
    obtain ⟨w1, w2, w3, w4, w5⟩ := id hg
    have hcg : clR g rl cs := clR_of (fun k r => fg.1 2 k r (by decide) (by omega)) (fun r => fg.2 18 r (by omega)) hc
    cases hcv : chV V n rl cs with
    | none =>
      obtain ⟨z, hz, e10⟩ := hv.2.2.1
      have eg : gbT V 1 = nI (min 9999 (z + 1)) := by
        unfold gbT
        rw [e10, nI_1]
        by_cases c : z + 1 ≤ 9999
        · rw [if_pos (show nI (z + 1) ≤ (9999 : Int32) from nI_le (b := 9999) c (by decide)), Nat.min_eq_right c]
        · rw [if_neg (show ¬ nI (z + 1) ≤ (9999 : Int32) from nI_ge (a := 9999) (by omega) (by omega)), Nat.min_eq_left (by omega)]
          rfl
      have ep : f_State_pass 25 1 g = some (xsI g 6 0 25 (gbT V 1)) := by
        show (f_Math_min 9999 (g.1 6 0 25 + 1) g).bind (fun r1 => some (xsI g 6 0 25 r1)) = _
        rw [w1.1, e10, nI_1, c_minT (by omega), ← eg]
        rfl
      have run : f_Walk_goOn_b15 (oI none) g = some (oI none, xsI (xsI g 6 0 25 (gbT V 1)) 6 1 25 (V 11 + 1)) := by
        show (f_State_pass 25 1 g).bind (fun h8 => some (-1, xsI h8 6 1 25 (h8.1 6 1 25 + 1))) = _
        rw [ep, Option.bind_some, rdI (by decide), w1.2.1]
        rfl
      refine ⟨_, run, ⟨⟨st', ⟨?_, ?_, w3, w4, ?_⟩, ?_⟩, wOk_st hv (fun k hk => by cases hk), clR_of (h := g) (fun k r => by rw [rdI (by omega), rdI (by omega)]) (fun r => rfl) hcg⟩, ?_⟩
      · obtain ⟨s1, s2, s3, s4, s5⟩ := w1
        have o : ∀ t, t ≠ 10 → t ≠ 11 → stV V none t = V t := fun t h1 h2 => by
          show upd (upd V 10 (gbT V 1)) 11 (V 11 + 1) t = V t
          rw [pk_un h2, pk_un h1]
        refine ⟨?_, ?_, ?_, ?_, fun k hk => ?_⟩
        · rw [rdI (by decide), rdI_s]
          show gbT V 1 = upd (upd V 10 (gbT V 1)) 11 (V 11 + 1) 10
          rw [pk_un (show (10 : Nat) ≠ 11 by decide), pk_us]
        · rw [rdI_s]; exact (pk_us).symm
        · rw [rdI (by decide), rdI (by decide), s3]
          exact congrArg (fun p => nI (bs p n)) (vIn_up (a := gbT V 1) (b := V 11 + 1)).symm
        · rw [rdI (by decide), rdI (by decide), s4]
          exact congrArg (fun p => nI (bs p n)) (vLb_up (a := gbT V 1) (b := V 11 + 1)).symm
        · rw [o (20 + k) (by omega) (by omega), o (36 + k) (by omega) (by omega), o (28 + k) (by omega) (by omega), o (44 + k) (by omega) (by omega)]
          exact s5 k hk
      · have o : ∀ t, t ≠ 10 → t ≠ 11 → stV V none t = V t := fun t h1 h2 => by
          show upd (upd V 10 (gbT V 1)) 11 (V 11 + 1) t = V t
          rw [pk_un h2, pk_un h1]
        refine ⟨?_, ?_, fun k hk => ?_⟩
        · rw [rdI (by decide), rdI (by decide), o 1 (by decide) (by decide)]; exact w2.1
        · rw [rdI (by decide), rdI (by decide), o 2 (by decide) (by decide)]; exact w2.2.1
        · rw [o (52 + k) (by omega) (by omega)]; exact w2.2.2 k hk
      · rw [rdI (by decide), rdI (by decide)]; exact w5
      · exact hs'.imp id (fun q => ⟨q.1, stl_st q.2⟩)
      · exact wkF_trans fg ⟨fun c k i p q => by rw [rdI_n (by omega), rdI_n (by omega)], fun _ _ _ => rfl⟩
    | some k =>
      obtain ⟨hk, hlo⟩ := lt k hcv
      have hin : vIn V k = true := by
        unfold vLoose at hlo
        rw [Bool.and_eq_true] at hlo
        exact hlo.1
      obtain ⟨z, hz, e10⟩ := hv.2.2.1
      obtain ⟨-, -, y, hy, ey⟩ := hv.2.2.2 k hk
      obtain ⟨g1, e1, s1, f1, f2, f3, f4, f5⟩ := c_lift (i := 25) w1 h8 hk hin e10 hz ey hy
      have st0 : st' = 0 := by
        rcases hs' with q | ⟨-, q⟩
        · exact q
        · rw [stl_c q] at hcv; cases hcv
      have run : f_Walk_goOn_b15 (oI (some k)) g = some (oI (some k), xsI g1 6 1 25 (V 11 + 1)) := by
        show (if nI k = -1 then _ else (g.2.2.1 10 3 0).bind (fun i910 => (f_State_lift 25 (nI k) (g.1 8 1 i910) g).bind (fun h13 => some (nI k, xsI h13 6 1 25 (h13.1 6 1 25 + 1))))) = _
        rw [if_neg (nI_nm1 (by omega)), w3, Option.bind_some, w2.1, e1, Option.bind_some, s1.2.1, liV_o (show 11 ≠ 10 by decide) (by omega) (by omega)]
        rfl
      have o : ∀ t, t ≠ 11 → stV V (some k) t = liV V k t := fun t h1 => pk_un h1
      refine ⟨_, run, ⟨⟨st', ⟨?_, ?_, ?_, ?_, ?_⟩, Or.inl st0⟩, wOk_st hv (fun j hj => by cases hj; exact hk), clR_of (fun j r => by rw [rdI (by omega), f1 2 j r (by omega)]) (fun r => f2 18 r (by omega)) hcg⟩, ?_⟩
      · obtain ⟨t1, t2, t3, t4, t5⟩ := s1
        refine ⟨?_, ?_, ?_, ?_, fun j hj => ?_⟩
        · rw [rdI (by decide), o 10 (by decide)]; exact t1
        · rw [rdI_s]; exact (pk_us).symm
        · rw [rdI (by decide), t3]
          refine congrArg (fun p => nI (bs p n)) (funext fun j => ?_)
          unfold vIn
          rw [o (12 + j) (by omega)]
        · rw [rdI (by decide), t4]
          refine congrArg (fun p => nI (bs p n)) (funext fun j => ?_)
          unfold vLb
          rw [o (12 + j) (by omega)]
        · rw [o (20 + j) (by omega), o (36 + j) (by omega), o (28 + j) (by omega), o (44 + j) (by omega)]
          exact t5 j hj
      · refine ⟨?_, ?_, fun j hj => ?_⟩
        · rw [rdI (by decide), f1 8 1 0 (by decide), o 1 (by decide), liV_o (by decide) (by omega) (by omega)]; exact w2.1
        · rw [rdI (by decide), f1 8 2 0 (by decide), o 2 (by decide), liV_o (by decide) (by omega) (by omega)]; exact w2.2.1
        · show g1.2.2.2.1 39 0 j = _
          rw [f2 39 0 (by decide), o (52 + j) (by omega), liV_o (by omega) (by omega) (by omega)]; exact w2.2.2 j hj
      · show g1.2.2.1 10 3 0 = _
        rw [f4]; exact w3
      · show g1.2.2.1 10 4 0 = _
        rw [f4]; exact w4
      · rw [rdI (by decide), f1 10 1 0 (by decide)]; exact w5
      · exact wkF_trans fg ⟨fun c j i p q => by rw [rdI_n (by omega), f1 c j i (by omega)], fun a i q => f2 a i (by omega)⟩
  have cl : f_Walk_goOn h = (if h.1 10 1 0 = 0 then (f_Walk_chosenNow h).bind (fun q4 => f_Walk_goOn_b15 q4.1 q4.2) else f_Walk_goOn_b15 (-1) h) := rfl
  rw [cl, hr.2.2.2.2]
  rcases hst with rfl | ⟨rfl, hs⟩
  · rw [if_pos rfl]
    obtain ⟨g, st', e, hg, hs', fg⟩ := c_chosenNow hv hr hc
    rw [e, Option.bind_some]
    exact b15 g st' hg hs' fg
  · rw [if_neg (by decide)]
    have := b15 h 1 hr (Or.inr ⟨rfl, hs⟩) (wkF_refl h)
    rw [stl_c hs] at this ⊢
    exact this
