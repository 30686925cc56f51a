/-! THE FIRST STORE: what the two constructors leave, as a typed store (laid by wip/whole/gen_init.py) -/
def coffT : List (List Nat) := [[228], [105], [15, 18, 21, 24, 27, 30], [13], [33, 48, 62, 76, 90], [220], [40, 55, 69, 83, 97, 107, 112, 117, 122, 127, 132, 137, 142, 147, 152, 157, 162, 167, 172, 177, 182, 187, 192, 197, 202, 208], [1], [34, 49, 63, 77, 91, 6, 214], [12], [207], [0], [234], [229], [230], [231], [232], [106], [16, 19, 22, 25, 28, 31], [17, 20, 23, 26, 29, 32], [45, 60, 74, 88, 102], [46, 61, 75, 89, 103], [221], [222], [223], [224], [225], [226], [227], [41, 56, 70, 84, 98, 108, 113, 118, 123, 128, 133, 138, 143, 148, 153, 158, 163, 168, 173, 178, 183, 188, 193, 198, 203, 209], [42, 57, 71, 85, 99, 109, 114, 119, 124, 129, 134, 139, 144, 149, 154, 159, 164, 169, 174, 179, 184, 189, 194, 199, 204, 210], [43, 58, 72, 86, 100, 110, 115, 120, 125, 130, 135, 140, 145, 150, 155, 160, 165, 170, 175, 180, 185, 190, 195, 200, 205, 211], [44, 59, 73, 87, 101, 111, 116, 121, 126, 131, 136, 141, 146, 151, 156, 161, 166, 171, 176, 181, 186, 191, 196, 201, 206, 212], [2], [3], [4], [5], [35, 50, 64, 78, 92, 7, 215], [36, 51, 65, 79, 93, 8, 216], [37, 52, 66, 80, 94, 9, 217], [38, 53, 67, 81, 95, 10, 218], [39, 54, 68, 82, 96, 11, 219], [213], [14], [47], [104], [233], [235], [236], [237], [238], [239], [240], [241], [242], [243], [244], [245], [246], [247], [248], [249], [250], [251], [252], [253], [254], [255], [256], [257]]
def coff (c i : Nat) : Nat := (coffT.getD c []).getD i 0
/-- the store of a new object and of a new reference -/
def xh0 : xH := (fun c k _ => if c = 4 ∧ k = 2 then -1 else if c = 12 ∧ k = 21 then -1 else 0, fun _ _ _ => 0, fun c k _ => if c = 10 ∧ k = 3 then some 6 else none, fun _ _ _ => 0, fun _ _ _ => 0)
def cabF (c k i : Nat) : cV := if (xfk c k).1 = 0 then .inl (xh0.1 c k i) else if (xfk c k).1 = 1 then .inr (.inl (xh0.2.1 c k i)) else if (xfk c k).1 = 2 then .inr (.inr ((xh0.2.2.1 c k i).map (coff (xfk c k).2.1))) else .inr (.inr (some (coff (xfk c k).2.1 ((xfk c k).2.2.1 * i + (xfk c k).2.2.2))))
def cabE (p : Nat × Nat) : cE := if p.1 < 13 then .inl (p.1, (List.range (xnf p.1)).map (fun k => cabF p.1 k p.2)) else .inr ((xak p.1).1, (xak p.1).2.1, if (xak p.1).1 < 4 then [] else (List.range (xak p.1).2.1).map (fun j => some (coff (xak p.1).2.2.1 ((xak p.1).2.2.2 + j))))
def cvb : cV → cV → Bool
  | .inl a, .inl b => decide (a = b)
  | .inr (.inl a), .inr (.inl b) => decide (a = b)
  | .inr (.inr a), .inr (.inr b) => decide (a = b)
  | _, _ => false
theorem cvb_eq {a b : cV} (h : cvb a b = true) : a = b := by
  rcases a with a | a | a <;> rcases b with b | b | b <;> simp only [cvb, decide_eq_true_eq, Bool.false_eq_true] at h
  · rw [h]
  · rw [h]
  · rw [h]
def clb : List cV → List cV → Bool
  | [], [] => true
  | a :: l, b :: m => cvb a b && clb l m
  | _, _ => false
theorem clb_eq : ∀ {l m : List cV}, clb l m = true → l = m
  | [], [], _ => rfl
  | [], _ :: _, h => by cases h
  | _ :: _, [], h => by cases h
  | a :: l, b :: m, h => by
    simp only [clb, Bool.and_eq_true] at h
    rw [cvb_eq h.1, clb_eq h.2]
def ceb : cE → cE → Bool
  | .inl (c, fs), .inl (c', fs') => decide (c = c') && clb fs fs'
  | .inr (t, n, rs), .inr (t', n', rs') => decide (t = t') && (decide (n = n') && decide (rs = rs'))
  | _, _ => false
theorem ceb_eq {a b : cE} (h : ceb a b = true) : a = b := by
  rcases a with ⟨c, fs⟩ | ⟨t, n, rs⟩ <;> rcases b with ⟨c', fs'⟩ | ⟨t', n', rs'⟩ <;> simp only [ceb, Bool.and_eq_true, decide_eq_true_eq, Bool.false_eq_true] at h
  · rw [h.1, clb_eq h.2]
  · rw [h.1, h.2.1, h.2.2]
def cob (a : Option cE) (b : cE) : Bool := match a with
  | none => false
  | some x => ceb x b
theorem cob_eq {a : Option cE} {b : cE} (h : cob a b = true) : a = some b := by
  cases a with
  | none => cases h
  | some x => rw [ceb_eq (show ceb x b = true from h)]
def cB : Option (List cE) := crun 8000 8 11 0 [(0, .inr (.inr (some 0)))] [] [.inl (11, cdef 11)]
def cM (nb : List cE) : Option (List cE) := crun 8000 8 12 0 [(0, .inr (.inr (some nb.length)))] [] (nb ++ [.inl (12, cdef 12)])
def cinOk : Bool := match cB with
  | none => false
  | some nb => match cM nb with
    | none => false
    | some nf => decide (nb.length = 234) && (decide (nf.length = 258) && (decide (csz nb = 8259) && (decide (csz nf = 13912) && xdom.all (fun p => cob nf[coff p.1 p.2]? (cabE p)))))
set_option maxRecDepth 1000000 in
theorem cin_ok : cinOk = true := by decide +kernel
set_option maxRecDepth 1000000 in
theorem coff_ok : xdom.all (fun p => decide (xdom[(xdom.findIdx (fun q => coff q.1 q.2 == coff p.1 p.2))]? = some p)) = true := by decide +kernel
theorem coff_inj {p q : Nat × Nat} (hp : p ∈ xdom) (hq : q ∈ xdom) (e : coff p.1 p.2 = coff q.1 q.2) : p = q := by
  have h1 := of_decide_eq_true (List.all_eq_true.mp coff_ok p hp)
  have h2 := of_decide_eq_true (List.all_eq_true.mp coff_ok q hq)
  rw [e] at h1
  exact Option.some.inj (h1.symm.trans h2)
/-- both runs, and what they leave -/
theorem cin_at : ∃ nb nf : List cE, cB = some nb ∧ cM nb = some nf ∧ nb.length = 234 ∧ nf.length = 258 ∧ csz nb = 8259 ∧ csz nf = 13912 ∧ ∀ p ∈ xdom, nf[coff p.1 p.2]? = some (cabE p) := by
  have h := cin_ok
  unfold cinOk at h
  cases hb : cB with
  | none => rw [hb] at h; cases h
  | some nb =>
    rw [hb] at h
    cases hm : cM nb with
    | none => simp only [hm] at h; cases h
    | some nf =>
      simp only [hm, Bool.and_eq_true, decide_eq_true_eq] at h
      exact ⟨nb, nf, rfl, hm, h.1, h.2.1, h.2.2.1, h.2.2.2.1, fun p hp => cob_eq (List.all_eq_true.mp h.2.2.2.2 p hp)⟩
theorem xcnt_0 {c i : Nat} (h : i < xcnt c) : (c, i) ∈ xdom := xdom_mem h
theorem xinit {D : va_G} {κ : Nat → ClassId} {ads : List Nat} {nf : List cE} {H : Heap} {sd : Nat × Nat} (hl : ads.length = nf.length) (hc : ∀ p ∈ xdom, nf[coff p.1 p.2]? = some (cabE p)) (hP : va_P D vwCl (cws κ ads nf) H) : va_P D vwCl (xws (D, (fun c i => ads.getD (coff c i) 0), κ, sd) xh0) H := by
  intro k q hk
  unfold xws at hk
  rw [List.getElem?_map] at hk
  cases hp : xdom[k]? with
  | none => rw [hp] at hk; cases hk
  | some p =>
    rw [hp] at hk
    obtain rfl := Option.some.inj hk
    have hmem : p ∈ xdom := List.mem_of_getElem? hp
    have h1 := hP (coff p.1 p.2) _ (cws_at (κ := κ) hl (hc p hmem))
    obtain ⟨c, i⟩ := p
    by_cases hc13 : c < 13
    · have e1 : cce κ ads (cabE (c, i)) = xce (D, (fun c i => ads.getD (coff c i) 0), κ, sd) xh0 (c, i) := by
        rw [xce_c hc13]
        unfold cabE
        rw [if_pos (show (c, i).1 < 13 from hc13)]
        show Sum.inr (c, ((List.range (xnf c)).map (fun k => cabF c k i)).map (ccv ads)) = _
        rw [List.map_map]
        congr 2
        refine List.map_congr_left (fun k _ => ?_)
        show ccv ads (cabF c k i) = xfv _ xh0 c k i
        unfold cabF xfv
        split
        · rfl
        · split
          · rfl
          · split
            · show va_rf (((xh0.2.2.1 c k i).map (coff (xfk c k).2.1)).map (fun k => ads.getD k 0)) = va_rf ((xh0.2.2.1 c k i).map _)
              rw [Option.map_map]
              rfl
            · rfl
      rw [e1] at h1
      exact h1
    · have hc' : 13 ≤ c := Nat.not_lt.mp hc13
      unfold cabE at h1
      rw [if_neg (show ¬ (c, i).1 < 13 from hc13)] at h1
      have h2 : H[ads.getD (coff c i) 0]? = some (vp_cell (κ (xak c).1) ((xak c).2.1, _)) := h1
      show va_at D vwCl (ads.getD (coff c i) 0, xce _ xh0 (c, i)) H
      rw [xce_a hc']
      show H[ads.getD (coff c i) 0]? = some (vp_cell (κ (xak c).1) (xae _ xh0 c i))
      rw [h2]
      unfold xae
      by_cases t2 : (xak c).1 = 2
      · rw [if_pos t2, if_pos t2]
        rfl
      · rw [if_neg t2, if_neg t2]
        by_cases t4 : (xak c).1 < 4
        · rw [if_pos t4, if_pos t4]
          rfl
        · simp only [t4, if_false]
          rw [vp_cell_q, vp_cell_q]
          congr 1
          unfold arrV
          congr 2
          funext j
          show va_rf (ccr ads _ j.val) = va_rf (some _)
          unfold ccr
          rw [List.getD_eq_getElem?_getD, List.getElem?_map, List.getElem?_range (show j.val < (xak (c, i).1).2.1 from j.isLt)]
          rfl
theorem xinitJ {D : va_G} {κ : Nat → ClassId} {A : Nat → Prop} {ads : List Nat} {nf : List cE} {sd : Nat × Nat} (hl : ads.length = nf.length) (hc : ∀ p ∈ xdom, nf[coff p.1 p.2]? = some (cabE p)) (hD : va_D A (cws κ ads nf)) : xJ (D, (fun c i => ads.getD (coff c i) 0), κ, sd) := by
  intro p hp q hq e
  have h1 := hD.1 (coff p.1 p.2) (coff q.1 q.2) _ _ (cws_at (κ := κ) hl (hc p hp)) (cws_at (κ := κ) hl (hc q hq)) e
  exact coff_inj hp hq h1
theorem xinitA {D : va_G} {κ : Nat → ClassId} {A : Nat → Prop} {ads : List Nat} {nf : List cE} {sd : Nat × Nat} (hl : ads.length = nf.length) (hc : ∀ p ∈ xdom, nf[coff p.1 p.2]? = some (cabE p)) (hD : va_D A (cws κ ads nf)) : ∀ q, xA (D, (fun c i => ads.getD (coff c i) 0), κ, sd) q → A q := by
  rintro q ⟨p, hp, rfl⟩
  exact hD.2 (coff p.1 p.2) _ (cws_at (κ := κ) hl (hc p hp))
