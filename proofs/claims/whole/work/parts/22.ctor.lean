/-! THE CONSTRUCTORS, run as a program over lists of new cells (laid by wip/whole/gen_ctor.py) -/
def cmT : List (MethodName × ByteArray × Nat × Nat) := [(yX0_init, cX0_init, 1, 0), (yX1_init, cX1_init, 2, 0), (yX2_init, cX2_init, 1, 0), (yX3_init, cX3_init, 2, 1), (yX4_init, cX4_init, 1, 0), (yX5_init, cX5_init, 1, 0), (yX6_init, cX6_init, 1, 0), (yX7_init, cX7_init, 1, 0), (yX8_init, cX8_init, 1, 0), (yX9_init, cX9_init, 3, 2), (yX10_init, cX10_init, 1, 0), (yX11_init, cX11_init, 2, 0), (yX12_init, cX12_init, 1, 0)]
def cclT : List (Nat × Nat × Nat × Nat) := [(11, 7, 7, 154), (11, 16, 8, 200), (11, 23, 9, 265), (11, 32, 3, 281), (11, 41, 2, 300), (11, 52, 4, 322), (4, 9, 8, 328), (4, 18, 6, 330), (11, 67, 1, 409), (1, 9, 6, 415), (11, 74, 10, 430), (10, 9, 6, 436), (10, 24, 8, 438), (11, 81, 5, 458), (11, 88, 0, 515)]
def cinT : List (Nat × Nat × Nat) := [(516, 137, 518), (410, 134, 412), (302, 131, 304), (282, 130, 284), (323, 132, 325), (459, 136, 461), (331, 133, 333), (155, 127, 157), (201, 128, 203), (266, 129, 268), (431, 135, 433), (147, 126, 149), (1244, 138, 1246)]
def cilT : List (Nat × Nat × Nat × Nat) := [(11, 1, 0, 151), (11, 9, 8, 156), (7, 3, 0, 159), (11, 18, 9, 202), (8, 3, 0, 205), (11, 25, 10, 267), (9, 3, 0, 270), (11, 34, 4, 283), (3, 3, 0, 286), (11, 47, 3, 303), (2, 1, 0, 306), (11, 54, 5, 324), (4, 3, 0, 327), (4, 11, 9, 329), (4, 20, 7, 332), (6, 3, 0, 335), (11, 69, 2, 411), (1, 3, 0, 414), (1, 17, 7, 417), (11, 76, 11, 432), (10, 3, 0, 435), (10, 11, 7, 437), (10, 26, 9, 439), (11, 83, 6, 460), (5, 3, 0, 463), (11, 90, 1, 517), (0, 3, 0, 520), (12, 1, 0, 1248)]
theorem cobj : Cond.instanceMethod objectInit ∈ lw_tbl ∧ Cond.code objectInit ⟨#[0xb1]⟩ 1 none ∈ lw_tbl := ⟨xt1 (List.mem_of_getElem? (i := 27) rfl), xt1 (List.mem_of_getElem? (i := 28) rfl)⟩
set_option maxRecDepth 20000 in
theorem ccw : ∀ q ∈ cmT, Cond.code q.1 q.2.1 q.2.2.1 none ∈ lw_tbl := List.forall_mem_cons.mpr ⟨xt2 (List.mem_of_getElem? (i := 154) rfl), List.forall_mem_cons.mpr ⟨xt2 (List.mem_of_getElem? (i := 48) rfl), List.forall_mem_cons.mpr ⟨xt1 (List.mem_of_getElem? (i := 180) rfl), List.forall_mem_cons.mpr ⟨xt1 (List.mem_of_getElem? (i := 160) rfl), List.forall_mem_cons.mpr ⟨xt1 (List.mem_of_getElem? (i := 201) rfl), List.forall_mem_cons.mpr ⟨xt2 (List.mem_of_getElem? (i := 97) rfl), List.forall_mem_cons.mpr ⟨xt1 (List.mem_of_getElem? (i := 209) rfl), List.forall_mem_cons.mpr ⟨xt1 (List.mem_of_getElem? (i := 33) rfl), List.forall_mem_cons.mpr ⟨xt1 (List.mem_of_getElem? (i := 79) rfl), List.forall_mem_cons.mpr ⟨xt1 (List.mem_of_getElem? (i := 144) rfl), List.forall_mem_cons.mpr ⟨xt2 (List.mem_of_getElem? (i := 69) rfl), List.forall_mem_cons.mpr ⟨xt1 (List.mem_of_getElem? (i := 25) rfl), List.forall_mem_cons.mpr ⟨xt5 (List.mem_of_getElem? (i := 162) rfl), fun _ h => absurd h List.not_mem_nil⟩⟩⟩⟩⟩⟩⟩⟩⟩⟩⟩⟩⟩
theorem cac0 : Cond.arrayClass .int ∈ lw_tbl := xt1 (List.mem_of_getElem? (i := 74) rfl)
theorem cac1 : Cond.arrayClass .byte ∈ lw_tbl := xt1 (List.mem_of_getElem? (i := 73) rfl)
theorem cac2 : Cond.arrayClass .long ∈ lw_tbl := xt1 (List.mem_of_getElem? (i := 196) rfl)
theorem cac3 : Cond.arrayClass .boolean ∈ lw_tbl := xt2 (List.mem_of_getElem? (i := 64) rfl)
theorem cac4 : Cond.arrayOver (.object "BeanTrug$Rule") ∈ lw_tbl := xt1 (List.mem_of_getElem? (i := 176) rfl)
theorem cac5 : Cond.arrayOver (.object "BeanTrug$Scene") ∈ lw_tbl := xt2 (List.mem_of_getElem? (i := 43) rfl)
theorem cac6 : Cond.arrayOver (.object "BeanTrug$State") ∈ lw_tbl := xt2 (List.mem_of_getElem? (i := 51) rfl)
def cm (y : Nat) : MethodName × ByteArray × Nat × Nat := cmT.getD y (⟨"", "", ""⟩, ⟨#[]⟩, 0, 0)
def cname (y : Nat) : MethodName := (cm y).1
def ccode (y : Nat) : ByteArray := (cm y).2.1
def cmaxL (y : Nat) : Nat := (cm y).2.2.1
def cnarg (y : Nat) : Nat := (cm y).2.2.2
def cwords (y : Nat) : List Cond := .code (cname y) (ccode y) (cmaxL y) none :: xtbl
def cmOk (y : Nat) : Bool := plainFor (cname y) && (decide ((cname y).cls = xon y) && (decide ((cname y).name = "<init>") && (decide ((parseMethodDescriptor (cname y).desc).map (fun d => d.parameters.length) = some (cnarg y)) && (decide (cmaxL y ≤ 40) && (decide ((xcl y).1 = xon y) && (match cinT[y]? with | none => false | some t => decide (lw_tbl[t.1]? = some (.instantiable (xon y) (xcl y).2.2)) && (decide (lw_tbl[t.2.1]? = some (.initialized (xon y))) && decide (lw_tbl[t.2.2]? = some (.instanceMethod (cname y))))))))))
set_option maxRecDepth 100000 in
theorem cm_ok : (List.range 13).all cmOk = true := by decide +kernel
def cclOk (q : Nat × Nat × Nat × Nat) : Bool := decide (q.2.2.1 < 13) && decide (lw_tbl[q.2.2.2]? = some (.classLink (xon q.1) q.2.1 (xon q.2.2.1)))
set_option maxRecDepth 100000 in
theorem ccl_ok : cclT.all cclOk = true := by decide +kernel
def cilOk (q : Nat × Nat × Nat × Nat) : Bool := decide (q.2.2.1 < 14) && decide (lw_tbl[q.2.2.2]? = some (.methodLink (xon q.1) q.2.1 (if q.2.2.1 = 0 then objectInit else cname (q.2.2.1 - 1))))
set_option maxRecDepth 100000 in
theorem cil_ok : cilT.all cilOk = true := by decide +kernel
theorem cm_mem {y : Nat} (h : y < 13) : cm y ∈ cmT := by
  unfold cm
  rw [List.getD_eq_getElem?_getD, List.getElem?_eq_getElem (show y < cmT.length from h)]
  exact List.getElem_mem _
theorem ccode_in {y : Nat} (h : y < 13) : Cond.code (cname y) (ccode y) (cmaxL y) none ∈ lw_tbl := ccw _ (cm_mem h)
theorem cwords_good {y : Nat} {big : List Cond} (hb : ∀ w ∈ xtbl, w ∈ big) (h2 : y < 13) : GoodIn big (cwords y) := by
  intro w hw
  rcases List.mem_cons.mp hw with e | e
  · rw [e]
    exact ⟨hb _ (xin (ccode_in h2) rfl), Or.inl rfl⟩
  · exact ⟨hb _ e, good_of_word (List.mem_filter.mp e).2⟩
/-! values, cells, worlds -/
abbrev cV : Type := Int32 ⊕ (Int64 ⊕ Option Nat)
abbrev cE : Type := (Nat × List cV) ⊕ (Nat × Nat × List (Option Nat))
def ccv (ads : List Nat) : cV → Value
  | .inl x => .int x
  | .inr (.inl x) => .long x
  | .inr (.inr o) => va_rf (o.map (fun k => ads.getD k 0))
def ccr (ads : List Nat) (rs : List (Option Nat)) : Nat → Option Nat := fun j => (rs.getD j none).map (fun k => ads.getD k 0)
def cce (κ : Nat → ClassId) (ads : List Nat) : cE → va_E
  | .inl (c, fs) => .inr (c, fs.map (ccv ads))
  | .inr (t, n, rs) => .inl (κ t, n, if t = 2 then .inr (.inl (fun _ => 0)) else if t < 4 then .inl (fun _ => 0) else .inr (.inr (.inr (.inr (ccr ads rs)))))
def cws (κ : Nat → ClassId) (ads : List Nat) (ns : List cE) : va_W := List.zipWith (fun a e => (a, cce κ ads e)) ads ns
def csz1 : cE → Nat
  | .inl (_, fs) => fs.length
  | .inr (_, n, _) => n
def csz (ns : List cE) : Nat := (ns.map csz1).sum
def cvd (n : Nat) : cV → Prop
  | .inr (.inr (some k)) => k < n
  | _ => True
def ced (n : Nat) : cE → Prop
  | .inl (_, fs) => ∀ v ∈ fs, cvd n v
  | .inr (_, _, rs) => ∀ k, some k ∈ rs → k < n
theorem ccv_app {ads : List Nat} {q : Nat} {v : cV} (h : cvd ads.length v) : ccv (ads ++ [q]) v = ccv ads v := by
  rcases v with x | x | _ | k
  · rfl
  · rfl
  · rfl
  · have h : k < ads.length := h
    show va_rf (some ((ads ++ [q]).getD k 0)) = va_rf (some (ads.getD k 0))
    rw [List.getD_eq_getElem?_getD, List.getD_eq_getElem?_getD, List.getElem?_append_left h]
theorem cce_app {κ : Nat → ClassId} {ads : List Nat} {q : Nat} {e : cE} (h : ced ads.length e) : cce κ (ads ++ [q]) e = cce κ ads e := by
  rcases e with ⟨c, fs⟩ | ⟨t, n, rs⟩
  · show Sum.inr (c, fs.map (ccv (ads ++ [q]))) = Sum.inr (c, fs.map (ccv ads))
    rw [List.map_congr_left (fun v hv => ccv_app (h v hv))]
  · have e1 : ccr (ads ++ [q]) rs = ccr ads rs := by
      funext j
      unfold ccr
      cases hj : rs.getD j none with
      | none => rfl
      | some k =>
        have hk : k < ads.length := h k (by
          rw [List.getD_eq_getElem?_getD] at hj
          cases hq : rs[j]? with
          | none => rw [hq] at hj; cases hj
          | some z => rw [hq] at hj; exact List.mem_of_getElem? (hq.trans (congrArg some hj)))
        show some ((ads ++ [q]).getD k 0) = some (ads.getD k 0)
        rw [List.getD_eq_getElem?_getD, List.getD_eq_getElem?_getD, List.getElem?_append_left hk]
    show Sum.inl (κ t, n, _) = Sum.inl (κ t, n, _)
    rw [e1]
theorem cws_app {κ : Nat → ClassId} {ads : List Nat} {ns : List cE} {q : Nat} {e : cE} (hl : ads.length = ns.length) (hv : ∀ x ∈ ns, ced ads.length x) : cws κ (ads ++ [q]) (ns ++ [e]) = cws κ ads ns ++ [(q, cce κ (ads ++ [q]) e)] := by
  unfold cws
  rw [List.zipWith_append hl]
  congr 1
  apply List.ext_getElem?
  intro j
  rw [List.getElem?_zipWith, List.getElem?_zipWith]
  cases ha : ads[j]? with
  | none => rfl
  | some a =>
    cases hn : ns[j]? with
    | none => rfl
    | some x => exact congrArg some (by rw [cce_app (hv x (List.mem_of_getElem? hn))])
theorem cws_at {κ : Nat → ClassId} {ads : List Nat} {ns : List cE} {k : Nat} {e : cE} (hl : ads.length = ns.length) (hk : ns[k]? = some e) : (cws κ ads ns)[k]? = some (ads.getD k 0, cce κ ads e) := by
  have hlt : k < ads.length := by rw [hl]; exact (List.getElem?_eq_some_iff.mp hk).1
  unfold cws
  rw [List.getElem?_zipWith, hk, List.getElem?_eq_getElem hlt, List.getD_eq_getElem?_getD, List.getElem?_eq_getElem hlt]
  rfl
theorem cws_set {κ : Nat → ClassId} {ads : List Nat} {ns : List cE} {k : Nat} {e e0 : cE} (hl : ads.length = ns.length) (hk : ns[k]? = some e0) : (cws κ ads ns).set k (ads.getD k 0, cce κ ads e) = cws κ ads (ns.set k e) := by
  have hlt : k < ns.length := (List.getElem?_eq_some_iff.mp hk).1
  apply List.ext_getElem?
  intro j
  by_cases hj : j = k
  · subst hj
    rw [cws_at (e := e) (by rw [List.length_set]; exact hl) (List.getElem?_set_self hlt), List.getElem?_set_self]
    unfold cws
    rw [List.length_zipWith, hl, Nat.min_self]
    exact hlt
  · rw [List.getElem?_set_ne (Ne.symm hj)]
    unfold cws
    rw [List.getElem?_zipWith, List.getElem?_zipWith, List.getElem?_set_ne (Ne.symm hj)]
