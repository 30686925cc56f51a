/-! FIELDS, ROWS, CALLS over the typed store -/
section XHEAP
variable {g : xG} {l : Launch} {d y pc : Nat} {ls : List (Nat × xV)} {st : List xV} {h h' : xH} {r : Option xV}
theorem xmem_all {α : Type} {f : α → Bool} {l : List α} (h : l.all f = true) {n : Nat} {a : α} (hn : l[n]? = some a) : f a = true := List.all_eq_true.mp h a (List.mem_of_getElem? hn)
theorem xfl_at {n o idx c k pl : Nat} (hn : xflT[n]? = some (o, idx, c, k, pl)) : c < 13 ∧ k < (xcl c).2.2 ∧ Cond.fieldLink (xon o) idx ((xcl c).2.1 k).1 ((xcl c).2.1 k).2.1 ((xcl c).2.1 k).2.2.1 ∈ lw_tbl := by
  have h := xmem_all xfl_ok hn
  simp only [xflOk, Bool.and_eq_true, decide_eq_true_eq] at h
  exact ⟨h.1, h.2.1, List.mem_of_getElem? h.2.2⟩
theorem xml_at {n o idx y2 pl : Nat} (hn : xmlT[n]? = some (o, idx, y2, pl)) : y2 < xnM ∧ Cond.methodLink (xon o) idx (xname y2) ∈ lw_tbl := by
  have h := xmem_all xml_ok hn
  simp only [xmlOk, Bool.and_eq_true, decide_eq_true_eq] at h
  exact ⟨h.2, List.mem_of_getElem? h.1⟩
theorem xm_at (hy : y < xnM) : plainFor (xname y) = true ∧ (xname y).cls = xon (xkey y) ∧ (xname y).cls ≠ "java/lang/invoke/MethodHandle" ∧ (xname y).cls ≠ "java/lang/invoke/VarHandle" ∧ (parseMethodDescriptor (xname y).desc).map (fun d => d.parameters.length) = some (xnarg y) ∧ xmaxL y ≤ 40 := by
  have h := List.all_eq_true.mp xm_ok y (List.mem_range.mpr hy)
  simp only [xmOk, Bool.and_eq_true, decide_eq_true_eq] at h
  exact h
theorem xmw_i (hy : y < xnM) (hs : xstat y = false) : Cond.initialized (xname y).cls ∈ lw_tbl ∧ Cond.instanceMethod (xname y) ∈ lw_tbl ∧ Cond.selects (xname y).cls (xname y) (xname y) ∈ lw_tbl := by
  have h := List.all_eq_true.mp xmw_ok y (List.mem_range.mpr hy)
  unfold xmwOk at h
  split at h
  · cases h
  · simp only [hs, Bool.and_eq_true, decide_eq_true_eq, Bool.false_eq_true, if_false] at h
    exact ⟨List.mem_of_getElem? h.1, List.mem_of_getElem? h.2.1, List.mem_of_getElem? h.2.2⟩
theorem xmw_s (hy : y < xnM) (hs : xstat y = true) : Cond.initialized (xname y).cls ∈ lw_tbl ∧ Cond.static (xname y) ∈ lw_tbl := by
  have h := List.all_eq_true.mp xmw_ok y (List.mem_range.mpr hy)
  unfold xmwOk at h
  split at h
  · cases h
  · simp only [hs, Bool.and_eq_true, decide_eq_true_eq, if_true] at h
    exact ⟨List.mem_of_getElem? h.1, List.mem_of_getElem? h.2⟩
theorem xnf_eq {c : Nat} (hc : c < 13) : xnf c = (xcl c).2.2 := by
  have h := List.all_eq_true.mp xfk_ok c (List.mem_range.mpr hc)
  simp only [xfkOk, Bool.and_eq_true, decide_eq_true_eq] at h
  exact h.1
theorem xce_c {c i : Nat} (hc : c < 13) : xce g h (c, i) = .inr (c, (List.range (xnf c)).map (fun k => xfv g h c k i)) := if_pos hc
theorem xce_a {c i : Nat} (hc : 13 ≤ c) : xce g h (c, i) = .inl (g.2.2.1 (xak c).1, xae g h c i) := if_neg (Nat.not_lt.mpr hc)
theorem xat_c {c i q : Nat} (hc : c < 13) (hq : xdom[q]? = some (c, i)) : (xws g h)[q]? = some (g.2.1 c i, .inr (c, (List.range (xnf c)).map (fun k => xfv g h c k i))) := by
  rw [xws_at hq]
  unfold xcell
  rw [xce_c hc]
theorem xat_a {c i q : Nat} (hc : 13 ≤ c) (hq : xdom[q]? = some (c, i)) : (xws g h)[q]? = some (g.2.1 c i, .inl (g.2.2.1 (xak c).1, xae g h c i)) := by
  rw [xws_at hq]
  unfold xcell
  rw [xce_a hc]
theorem xFr.wd {p : Program} {s : State} {m : MethodId} {args : Array Value} {meth : Method} {c : Code} (F : xFr g y p s m args meth c) {w : Cond} (h : w ∈ lw_tbl) (hg : goodWord w = true) : w.before args s = true := F.2.2.2.2.2.1 _ (List.mem_cons_of_mem _ (xin h hg))
theorem xFr.ym {p : Program} {s : State} {m : MethodId} {args : Array Value} {meth : Method} {c : Code} (F : xFr g y p s m args meth c) : y < xnM := F.2.2.2.2.2.2.2.2.2.2
theorem xFr.own {p : Program} {s : State} {m : MethodId} {args : Array Value} {meth : Method} {c : Code} (F : xFr g y p s m args meth c) : s.vm.findClass (xon (xkey y)) = some m.cls := by
  rw [← (xm_at F.ym).2.1]
  exact F.2.2.2.2.1
theorem xFr.K {p : Program} {s : State} {m : MethodId} {args : Array Value} {meth : Method} {c : Code} (F : xFr g y p s m args meth c) : va_K g.1 vwCl (xtys g) s := F.2.2.2.2.2.2.2.1
theorem xFr.J {p : Program} {s : State} {m : MethodId} {args : Array Value} {meth : Method} {c : Code} (F : xFr g y p s m args meth c) : xJ g := F.2.2.2.2.2.2.2.2.2.1
theorem xFr.S {p : Program} {s : State} {m : MethodId} {args : Array Value} {meth : Method} {c : Code} (F : xFr g y p s m args meth c) : xS g s s.heap := F.2.2.2.2.2.2.2.2.1
/-- a field read -/
theorem xs_get {n idx c k pl i : Nat} {v : xV} (hd : decode (xcode y) pc = .ok (.getfield idx, 3)) (hn : xflT[n]? = some (xkey y, idx, c, k, pl)) (hv : xcv g v = xfv g h c k i) (hvd : i < xcnt c → xhd h → xvd v) (kk : xEv g l d y (pc + 3) ls (v :: st) h r h') : xEv g l d y pc ls (xr c (some i) :: st) h r h' := by
  intro p e s m args below meth c0 H locs la F v1 v2 v3 hP hS hl
  obtain ⟨hc, hk, hlw⟩ := xfl_at hn
  have hi : i < xcnt c := v2.h
  obtain ⟨q, hq⟩ := xdom_at hi
  have hk2 : k < xnf c := by rw [xnf_eq hc]; exact hk
  refine va_get (C := (xcl c).1) (T := (xcl c).2.1) (N := (xcl c).2.2) (ref := ((xcl c).2.1 k).1) F.1 F.2.1 F.2.2.2.2.2.1 (fun w hw => List.mem_cons_of_mem _ ((xcl_ok c _ (xcl_at hc)).1 w hw)) F.own F.K hP q (xat_c hc hq) (xcl_at hc) k hk (F.wd hlw rfl) (fun _ h9 => h9) (v := xcv g v) ?_ hd (kk p e s m args below meth c0 H locs la F v1 (xvl.c (hvd hi v3) v2.t) v3 hP hS hl)
  rw [List.getElem?_map, List.getElem?_range hk2]
  exact congrArg some hv.symm
theorem xs_geti {n idx c k pl i : Nat} (hd : decode (xcode y) pc = .ok (.getfield idx, 3)) (hn : xflT[n]? = some (xkey y, idx, c, k, pl)) (hk : (xfk c k).1 = 0) (kk : xEv g l d y (pc + 3) ls (xi (h.1 c k i) :: st) h r h') : xEv g l d y pc ls (xr c (some i) :: st) h r h' :=
  xs_get (v := xi (h.1 c k i)) hd hn (by unfold xfv; rw [if_pos hk]; rfl) (fun _ _ => trivial) kk
theorem xs_getl {n idx c k pl i : Nat} (hd : decode (xcode y) pc = .ok (.getfield idx, 3)) (hn : xflT[n]? = some (xkey y, idx, c, k, pl)) (hk : (xfk c k).1 = 1) (kk : xEv g l d y (pc + 3) ls (xl (h.2.1 c k i) :: st) h r h') : xEv g l d y pc ls (xr c (some i) :: st) h r h' :=
  xs_get (v := xl (h.2.1 c k i)) hd hn (by unfold xfv; rw [if_neg (by rw [hk]; decide), if_pos hk]; rfl) (fun _ _ => trivial) kk
theorem xs_getd {n idx c k pl i f : Nat} (hd : decode (xcode y) pc = .ok (.getfield idx, 3)) (hn : xflT[n]? = some (xkey y, idx, c, k, pl)) (hk : (xfk c k).1 = 2) (hf : (xfk c k).2.1 = f) (kk : xEv g l d y (pc + 3) ls (xr f (h.2.2.1 c k i) :: st) h r h') : xEv g l d y pc ls (xr c (some i) :: st) h r h' := by
  refine xs_get (v := xr f (h.2.2.1 c k i)) hd hn ?_ (fun _ hh => ?_) kk
  · unfold xfv; rw [if_neg (by rw [hk]; decide), if_neg (by rw [hk]; decide), if_pos hk, hf]; rfl
  · cases he : h.2.2.1 c k i with
    | none => exact trivial
    | some j => rw [← hf]; exact hh c k i j hk he
theorem xfk_3 {c k i : Nat} (hc : c < 13) (hk : k < xnf c) (h3 : (xfk c k).1 = 3) (hi : i < xcnt c) : (xfk c k).2.2.1 * i + (xfk c k).2.2.2 < xcnt (xfk c k).2.1 := by
  have h := List.all_eq_true.mp xfk_ok c (List.mem_range.mpr hc)
  simp only [xfkOk, Bool.and_eq_true, decide_eq_true_eq] at h
  have h1 := List.all_eq_true.mp h.2 k (List.mem_range.mpr hk)
  simp only [h3, if_true, Bool.and_eq_true, decide_eq_true_eq] at h1
  have h2 := List.all_eq_true.mp h1.2.2 i (List.mem_range.mpr hi)
  exact of_decide_eq_true h2
theorem xs_getc {n idx c k pl i f j : Nat} (hd : decode (xcode y) pc = .ok (.getfield idx, 3)) (hn : xflT[n]? = some (xkey y, idx, c, k, pl)) (hk : (xfk c k).1 = 3) (hf : (xfk c k).2.1 = f) (hj : (xfk c k).2.2.1 * i + (xfk c k).2.2.2 = j) (kk : xEv g l d y (pc + 3) ls (xr f (some j) :: st) h r h') : xEv g l d y pc ls (xr c (some i) :: st) h r h' := by
  refine xs_get (v := xr f (some j)) hd hn ?_ (fun hi _ => ?_) kk
  · unfold xfv; rw [if_neg (by rw [hk]; decide), if_neg (by rw [hk]; decide), if_neg (by rw [hk]; decide), hf, hj]; rfl
  · obtain ⟨hc, hk2, -⟩ := xfl_at hn
    rw [← hf, ← hj]
    exact xfk_3 hc (by rw [xnf_eq hc]; exact hk2) hk hi
/-- a field written -/
theorem xs_put {n idx c k pl i : Nat} {v : xV} {ty : FieldType} {h2 : xH} (hd : decode (xcode y) pc = .ok (.putfield idx, 3)) (hn : xflT[n]? = some (xkey y, idx, c, k, pl)) (hfin : ((xcl c).2.1 k).2.2.2 = false) (hty : parseFieldDescriptor ((xcl c).2.1 k).2.2.1 = some ty) (hnr : narrow ty (xcv g v) = xcv g v) (hft : fits ty (xcv g v) = true)
    (hset : xfv g h2 c k i = xcv g v) (hoth : ∀ c' k' i', ¬ (c' = c ∧ k' = k ∧ i' = i) → xfv g h2 c' k' i' = xfv g h c' k' i') (harr : ∀ c' i', xae g h2 c' i' = xae g h c' i') (hh : xhd h → xvd v → xhd h2) (kk : xEv g l d y (pc + 3) ls st h2 r h') : xEv g l d y pc ls (v :: xr c (some i) :: st) h r h' := by
  intro p e s m args below meth c0 H locs la F v1 v2 v3 hP hS hl
  obtain ⟨hc, hk, hlw⟩ := xfl_at hn
  have hi : i < xcnt c := v2.t.h
  obtain ⟨q, hq⟩ := xdom_at hi
  have hk2 : k < xnf c := by rw [xnf_eq hc]; exact hk
  obtain ⟨ty0, hty0⟩ := (xcl_ok c _ (xcl_at hc)).2.2
  refine va_put (C := (xcl c).1) (T := (xcl c).2.1) (N := (xcl c).2.2) (ref := ((xcl c).2.1 k).1) (v := xcv g v) F.1 F.2.1 F.2.2.2.2.2.1 (fun w hw => List.mem_cons_of_mem _ ((xcl_ok c _ (xcl_at hc)).1 w hw)) ty0 hty0 (xcl_ok c _ (xcl_at hc)).2.1 F.own F.K hP (xD F.J) hS q (xat_c hc hq) (xcl_at hc) k hk (F.wd hlw rfl) (fun _ h9 => h9) hfin hty hnr hft (by rw [List.length_map, List.length_range]; exact hk2) hd (fun H1 locs1 hP1 hD1 hS1 => ?_)
  have hw : (xws g h).set q (g.2.1 c i, .inr (c, ((List.range (xnf c)).map (fun k => xfv g h c k i)).set k (xcv g v))) = xws g h2 := by
    refine xws_set (p := (c, i)) hq ?_ (fun p' hp' => ?_)
    · rw [xce_c hc]
      congr 2
      apply List.ext_getElem?
      intro j
      by_cases hj : j = k
      · subst hj
        rw [List.getElem?_set_self (by rw [List.length_map, List.length_range]; exact hk2), List.getElem?_map, List.getElem?_range hk2]
        exact congrArg some hset
      · rw [List.getElem?_set_ne (Ne.symm hj), List.getElem?_map, List.getElem?_map]
        by_cases hjn : j < xnf c
        · rw [List.getElem?_range hjn]
          exact congrArg some (hoth c j i (fun q => hj q.2.1))
        · rw [List.getElem?_eq_none (by rw [List.length_range]; omega)]
          rfl
    · obtain ⟨c', i'⟩ := p'
      unfold xce
      split
      · congr 2
        refine List.map_congr_left (fun z _ => hoth c' z i' (fun q => hp' ?_))
        rw [q.1, q.2.2]
      · rw [harr]
  rw [hw] at hP1
  exact kk p e s m args below meth c0 H1 locs1 la F v1 v2.t.t (hh v3 v2.h) hP1 hS1 hl
def xsI (h : xH) (c k i : Nat) (v : Int32) : xH := (xw h.1 c k (upd (h.1 c k) i v), h.2)
def xsL (h : xH) (c k i : Nat) (v : Int64) : xH := (h.1, xw h.2.1 c k (vp_updL (h.2.1 c k) i v), h.2.2)
def xsR (h : xH) (c k i : Nat) (v : Option Nat) : xH := (h.1, h.2.1, xw h.2.2.1 c k (xu (h.2.2.1 c k) i v), h.2.2.2)
def xsA (h : xH) (c i : Nat) (f : Nat → Int32) : xH := (h.1, h.2.1, h.2.2.1, xw h.2.2.2.1 c i f, h.2.2.2.2)
def xsB (h : xH) (c i : Nat) (f : Nat → Int64) : xH := (h.1, h.2.1, h.2.2.1, h.2.2.2.1, xw h.2.2.2.2 c i f)
theorem xputI_s {c k i : Nat} {a : Int32} (hk : (xfk c k).1 = 0) : xfv g (xsI h c k i a) c k i = xcv g (xi a) := by
  unfold xfv
  rw [if_pos hk]
  show Value.int (xw h.1 c k (upd (h.1 c k) i a) c k i) = Value.int a
  rw [xw_s]
  simp [upd]
theorem xputI_n {c k i : Nat} {a : Int32} (c' k' i' : Nat) (hn : ¬ (c' = c ∧ k' = k ∧ i' = i)) : xfv g (xsI h c k i a) c' k' i' = xfv g h c' k' i' := by
  have e : (xsI h c k i a).1 c' k' i' = h.1 c' k' i' := by
    show xw h.1 c k (upd (h.1 c k) i a) c' k' i' = _
    by_cases h1 : c' = c ∧ k' = k
    · obtain ⟨rfl, rfl⟩ := h1
      rw [xw_s]
      have : ¬ i' = i := fun z => hn ⟨rfl, rfl, z⟩
      simp [upd, this]
    · rw [xw_n h1]
  unfold xfv
  rw [e]
  rfl
/-- an int field, a boolean field written -/
theorem xs_puti {n idx c k pl i : Nat} {a : Int32} (hd : decode (xcode y) pc = .ok (.putfield idx, 3)) (hn : xflT[n]? = some (xkey y, idx, c, k, pl)) (hk : (xfk c k).1 = 0) (ht : ((xcl c).2.1 k).2.2 = ("I", false)) (kk : xEv g l d y (pc + 3) ls st (xsI h c k i a) r h') : xEv g l d y pc ls (xi a :: xr c (some i) :: st) h r h' :=
  xs_put (ty := .int) (h2 := xsI h c k i a) hd hn (by rw [ht]) (by rw [ht]; decide +kernel) rfl rfl (xputI_s hk) xputI_n (fun _ _ => rfl) (fun hh _ => hh) kk
theorem xs_putz {n idx c k pl i : Nat} {a : Int32} (hd : decode (xcode y) pc = .ok (.putfield idx, 3)) (hn : xflT[n]? = some (xkey y, idx, c, k, pl)) (hk : (xfk c k).1 = 0) (ht : ((xcl c).2.1 k).2.2 = ("Z", false)) (hz : a = 0 ∨ a = 1) (kk : xEv g l d y (pc + 3) ls st (xsI h c k i a) r h') : xEv g l d y pc ls (xi a :: xr c (some i) :: st) h r h' :=
  xs_put (ty := .boolean) (h2 := xsI h c k i a) hd hn (by rw [ht]) (by rw [ht]; decide +kernel) (by rcases hz with rfl | rfl <;> rfl) (by rcases hz with rfl | rfl <;> rfl) (xputI_s hk) xputI_n (fun _ _ => rfl) (fun hh _ => hh) kk
theorem xs_putl {n idx c k pl i : Nat} {a : Int64} (hd : decode (xcode y) pc = .ok (.putfield idx, 3)) (hn : xflT[n]? = some (xkey y, idx, c, k, pl)) (hk : (xfk c k).1 = 1) (ht : ((xcl c).2.1 k).2.2 = ("J", false)) (kk : xEv g l d y (pc + 3) ls st (xsL h c k i a) r h') : xEv g l d y pc ls (xl a :: xr c (some i) :: st) h r h' := by
  refine xs_put (ty := .long) (h2 := xsL h c k i a) hd hn (by rw [ht]) (by rw [ht]; decide +kernel) rfl rfl ?_ (fun c' k' i' hne => ?_) (fun _ _ => rfl) (fun hh _ => hh) kk
  · unfold xfv
    rw [if_neg (by rw [hk]; decide), if_pos hk]
    show Value.long (xw h.2.1 c k (vp_updL (h.2.1 c k) i a) c k i) = Value.long a
    rw [xw_s]
    simp [vp_updL]
  · have e : (xsL h c k i a).2.1 c' k' i' = h.2.1 c' k' i' := by
      show xw h.2.1 c k (vp_updL (h.2.1 c k) i a) c' k' i' = _
      by_cases h1 : c' = c ∧ k' = k
      · obtain ⟨rfl, rfl⟩ := h1
        rw [xw_s]
        have : ¬ i' = i := fun z => hne ⟨rfl, rfl, z⟩
        simp [vp_updL, this]
      · rw [xw_n h1]
    unfold xfv
    rw [e]
    rfl
theorem xs_putd {n idx c k pl i f : Nat} {o : Option Nat} {C : String} (hd : decode (xcode y) pc = .ok (.putfield idx, 3)) (hn : xflT[n]? = some (xkey y, idx, c, k, pl)) (hk : (xfk c k).1 = 2) (hf : (xfk c k).2.1 = f) (hfin : ((xcl c).2.1 k).2.2.2 = false) (hty : parseFieldDescriptor ((xcl c).2.1 k).2.2.1 = some (.object C)) (kk : xEv g l d y (pc + 3) ls st (xsR h c k i o) r h') : xEv g l d y pc ls (xr f o :: xr c (some i) :: st) h r h' := by
  refine xs_put (ty := .object C) (h2 := xsR h c k i o) hd hn hfin hty (by cases o <;> rfl) (by cases o <;> rfl) ?_ (fun c' k' i' hne => ?_) (fun _ _ => rfl) (fun hh hv => ?_) kk
  · unfold xfv
    rw [if_neg (by rw [hk]; decide), if_neg (by rw [hk]; decide), if_pos hk, hf]
    show va_rf ((xw h.2.2.1 c k (xu (h.2.2.1 c k) i o) c k i).map (g.2.1 f)) = va_rf (o.map (g.2.1 f))
    rw [xw_s]
    simp [xu]
  · have e : (xsR h c k i o).2.2.1 c' k' i' = h.2.2.1 c' k' i' := by
      show xw h.2.2.1 c k (xu (h.2.2.1 c k) i o) c' k' i' = _
      by_cases h1 : c' = c ∧ k' = k
      · obtain ⟨rfl, rfl⟩ := h1
        rw [xw_s]
        have : ¬ i' = i := fun z => hne ⟨rfl, rfl, z⟩
        simp [xu, this]
      · rw [xw_n h1]
    unfold xfv
    rw [e]
    rfl
  · intro c' k' i' j hk' hj
    have hj : xw h.2.2.1 c k (xu (h.2.2.1 c k) i o) c' k' i' = some j := hj
    by_cases h1 : c' = c ∧ k' = k
    · obtain ⟨rfl, rfl⟩ := h1
      rw [xw_s] at hj
      by_cases h2 : i' = i
      · simp only [xu, h2, if_true] at hj
        subst hj
        rw [hf]
        exact hv
      · simp only [xu, h2, if_false] at hj
        exact hh _ _ _ _ hk' hj
    · rw [xw_n h1] at hj
      exact hh _ _ _ _ hk' hj
end XHEAP
