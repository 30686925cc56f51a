/-! THE TYPED STORE: every cell of the two systems by its family (a class, or an array field) and its number; references by family and number. Its words beside the kit's worlds. -/
abbrev xV : Type := Int32 ⊕ (Int64 ⊕ (Nat × Option Nat))
abbrev xi (x : Int32) : xV := Sum.inl x
abbrev xl (x : Int64) : xV := Sum.inr (Sum.inl x)
abbrev xr (c : Nat) (o : Option Nat) : xV := Sum.inr (Sum.inr (c, o))
/-- fields of ints, of longs, of references that change; rows of ints (bytes, booleans), of longs: by family, slot (or number), number (or place) -/
abbrev xH : Type := (Nat → Nat → Nat → Int32) × (Nat → Nat → Nat → Int64) × (Nat → Nat → Nat → Option Nat) × (Nat → Nat → Nat → Int32) × (Nat → Nat → Nat → Int64)
/-- classes and slots, addresses, array classes, the String constant's two cells -/
abbrev xG : Type := va_G × (Nat → Nat → Nat) × (Nat → ClassId) × (Nat × Nat)
def xw {β : Type} (f : Nat → Nat → β) (c k : Nat) (g : β) : Nat → Nat → β := fun x y => if x = c then (if y = k then g else f x y) else f x y
def xu {β : Type} (f : Nat → β) (i : Nat) (v : β) : Nat → β := fun j => if j = i then v else f j
theorem xw_s {β : Type} {f : Nat → Nat → β} {c k : Nat} {g : β} : xw f c k g c k = g := by simp [xw]
theorem xw_n {β : Type} {f : Nat → Nat → β} {c k x y : Nat} {g : β} (h : ¬ (x = c ∧ y = k)) : xw f c k g x y = f x y := by
  unfold xw
  by_cases h1 : x = c
  · rw [if_pos h1, if_neg (fun h2 => h ⟨h1, h2⟩)]
  · rw [if_neg h1]
theorem xw_c {β : Type} {f : Nat → Nat → β} {c k x y : Nat} {g : β} (h : ¬ x = c) : xw f c k g x y = f x y := xw_n (fun q => h q.1)
def xfk (c k : Nat) : Nat × Nat × Nat × Nat := (xfkT.getD c []).getD k (9, 0, 0, 0)
def xnf (c : Nat) : Nat := (xfkT.getD c []).length
def xak (c : Nat) : Nat × Nat × Nat × Nat := xakT.getD (c - 13) (9, 0, 0, 0)
def xcnt (c : Nat) : Nat := xcntT.getD c 0
def xdom : List (Nat × Nat) := (List.range xnF).flatMap (fun c => (List.range (xcnt c)).map (fun i => (c, i)))
theorem xdom_len : xcntT.length = xnF := by decide +kernel
theorem xcnt_lt {c i : Nat} (h : i < xcnt c) : c < xnF := by
  rcases Nat.lt_or_ge c xnF with h1 | h1
  · exact h1
  · have h2 : xcnt c = 0 := by
      unfold xcnt
      rw [List.getD_eq_getElem?_getD, List.getElem?_eq_none (by rw [xdom_len]; exact h1)]
      rfl
    omega
theorem xdom_mem {c i : Nat} (h : i < xcnt c) : (c, i) ∈ xdom :=
  List.mem_flatMap.mpr ⟨c, List.mem_range.mpr (xcnt_lt h), List.mem_map.mpr ⟨i, List.mem_range.mpr h, rfl⟩⟩
theorem xdom_in {c i : Nat} (h : (c, i) ∈ xdom) : i < xcnt c := by
  obtain ⟨c', -, h1⟩ := List.mem_flatMap.mp h
  obtain ⟨i', h2, h3⟩ := List.mem_map.mp h1
  cases h3
  exact List.mem_range.mp h2
theorem xdom_nodup : xdom.Nodup := by decide +kernel
theorem xdom_at {c i : Nat} (h : i < xcnt c) : ∃ q : Nat, xdom[q]? = some (c, i) := List.getElem?_of_mem (xdom_mem h)
theorem xdom_inj {a b : Nat} {p : Nat × Nat} (h1 : xdom[a]? = some p) (h2 : xdom[b]? = some p) : a = b :=
  (List.getElem?_inj (List.getElem?_eq_some_iff.mp h1).1 xdom_nodup).mp (h1.trans h2.symm)
/-- a value's reference is a cell that there is -/
def xvd : xV → Prop
  | .inr (.inr (c, some i)) => i < xcnt c
  | _ => True
def xcv (g : xG) : xV → Value
  | .inl x => .int x
  | .inr (.inl x) => .long x
  | .inr (.inr (c, o)) => va_rf (o.map (g.2.1 c))
def xcat : xV → Nat
  | .inr (.inl _) => 2
  | _ => 1
theorem xcv_cat (g : xG) (v : xV) : (xcv g v).category = xcat v := by
  rcases v with x | x | ⟨c, _ | i⟩ <;> rfl
def xfv (g : xG) (h : xH) (c k i : Nat) : Value :=
  if (xfk c k).1 = 0 then .int (h.1 c k i) else if (xfk c k).1 = 1 then .long (h.2.1 c k i) else if (xfk c k).1 = 2 then va_rf ((h.2.2.1 c k i).map (g.2.1 (xfk c k).2.1)) else .ref (g.2.1 (xfk c k).2.1 ((xfk c k).2.2.1 * i + (xfk c k).2.2.2))
def xae (g : xG) (h : xH) (c i : Nat) : vp_A :=
  ((xak c).2.1, if (xak c).1 = 2 then .inr (.inl (h.2.2.2.2 c i)) else if (xak c).1 < 4 then .inl (h.2.2.2.1 c i) else .inr (.inr (.inr (.inr (fun j => some (g.2.1 (xak c).2.2.1 ((xak c).2.2.2 + j)))))))
def xce (g : xG) (h : xH) (p : Nat × Nat) : va_E := if p.1 < 13 then .inr (p.1, (List.range (xnf p.1)).map (fun k => xfv g h p.1 k p.2)) else .inl (g.2.2.1 (xak p.1).1, xae g h p.1 p.2)
def xcell (g : xG) (h : xH) (p : Nat × Nat) : Nat × va_E := (g.2.1 p.1 p.2, xce g h p)
def xws (g : xG) (h : xH) : va_W := xdom.map (xcell g h)
theorem xws_at {g : xG} {h : xH} {q : Nat} {p : Nat × Nat} (hq : xdom[q]? = some p) : (xws g h)[q]? = some (xcell g h p) := by
  unfold xws
  rw [List.getElem?_map, hq]
  rfl
theorem xws_set {g : xG} {h h' : xH} {q : Nat} {p : Nat × Nat} {e : va_E} (hq : xdom[q]? = some p) (he : xce g h' p = e) (ho : ∀ p' : Nat × Nat, p' ≠ p → xce g h' p' = xce g h p') : (xws g h).set q (g.2.1 p.1 p.2, e) = xws g h' := by
  apply List.ext_getElem?
  intro j
  by_cases hj : j = q
  · subst hj
    rw [List.getElem?_set_self (by unfold xws; rw [List.length_map]; exact (List.getElem?_eq_some_iff.mp hq).1), xws_at hq]
    unfold xcell
    rw [he]
  · rw [List.getElem?_set_ne (Ne.symm hj)]
    unfold xws
    rw [List.getElem?_map, List.getElem?_map]
    cases hp : xdom[j]? with
    | none => rfl
    | some p' =>
      have hne : p' ≠ p := fun z => hj (xdom_inj (z ▸ hp) hq)
      show some (xcell g h p') = some (xcell g h' p')
      unfold xcell
      rw [ho p' hne]
def xtys (g : xG) : List (ClassId × FieldType) := [(g.2.2.1 0, .int), (g.2.2.1 1, .byte), (g.2.2.1 2, .long), (g.2.2.1 3, .boolean), (g.2.2.1 4, .object "BeanTrug$Rule"), (g.2.2.1 5, .object "BeanTrug$Scene"), (g.2.2.1 6, .object "BeanTrug$State")]
/-- the cells that a method may change -/
def xA (g : xG) : Nat → Prop := fun q => ∃ p ∈ xdom, q = g.2.1 p.1 p.2
def xJ (g : xG) : Prop := ∀ p ∈ xdom, ∀ p' ∈ xdom, g.2.1 p.1 p.2 = g.2.1 p'.1 p'.2 → p = p'
theorem xD {g : xG} {h : xH} (hJ : xJ g) : va_D (xA g) (xws g h) := by
  have key : ∀ (k : Nat) (q : Nat × va_E), (xws g h)[k]? = some q → ∃ p ∈ xdom, xdom[k]? = some p ∧ q.1 = g.2.1 p.1 p.2 := by
    intro k q hk
    unfold xws at hk
    rw [List.getElem?_map] at hk
    cases hp : xdom[k]? with
    | none => rw [hp] at hk; cases hk
    | some p =>
      rw [hp] at hk
      have hk := Option.some.inj hk
      exact ⟨p, List.mem_of_getElem? hp, rfl, by rw [← hk]; rfl⟩
  refine ⟨fun i j x y hi hj hxy => ?_, fun k q hk => ?_⟩
  · obtain ⟨p1, m1, e1, a1⟩ := key i x hi
    obtain ⟨p2, m2, e2, a2⟩ := key j y hj
    have : p1 = p2 := hJ p1 m1 p2 m2 (by rw [← a1, ← a2, hxy])
    subst this
    exact xdom_inj e1 e2
  · obtain ⟨p, m1, -, a1⟩ := key k q hk
    exact ⟨p, m1, a1⟩
theorem xA_in {g : xG} {c i : Nat} (h : i < xcnt c) : xA g (g.2.1 c i) := ⟨(c, i), xdom_mem h, rfl⟩
/-- references that change stay references of cells that there are -/
def xhd (h : xH) : Prop := ∀ c k i j, (xfk c k).1 = 2 → h.2.2.1 c k i = some j → j < xcnt (xfk c k).2.1
/-- the String constant of words, and the two statics that its reading asks -/
def xWords : List Int32 := "sorrow weight time deep over many loose left load rest minute step trug under carrier lift if or and not".toList.map (fun ch => Int32.ofNat ch.toNat)
def xS (g : xG) (U : State) (H : Heap) : Prop := vk_S 1 [xWords.length] [xWords] (fun _ => g.2.2.2.1) (fun _ => g.2.2.2.2) (xA g) U H ∧ vk_R "BeanTrug$Tape" 69 "sorrow weight time deep over many loose left load rest minute step trug under carrier lift if or and not" g.2.2.2.1 U ∧ va_Z "java/lang/String" "COMPACT_STRINGS" "Z" (.int 1) (xA g) U H ∧ va_Zq "jdk/internal/util/Preconditions" "SIOOBE_FORMATTER" "Ljava/util/function/BiFunction;" (xA g) U H
theorem xS.call {g : xG} {s U : State} {H : Heap} {locs : List Loc} (h : xS g s s.heap) (hS : va_S (xA g) s.heap H locs) (hW : s.WarmedH U.vm) (hU : U.heap = H) : xS g U U.heap := by
  obtain ⟨h1, h2, h3, h4⟩ := h
  rw [hU]
  exact ⟨(h1.kept hS.2.1).moved hW.alike, h2.warm hW, (h3.kept hS.2.1).moved hW.alike, (h4.kept hS.2.1).moved hW.alike⟩
theorem xS.same {g : xG} {U T : State} {H : Heap} (hv : T.vm = U.vm) (h : xS g U H) : xS g T H := by
  obtain ⟨h1, h2, h3, h4⟩ := h
  have ha : U.vm.Alike T.vm := by rw [hv]; exact Vm.Alike.refl _
  exact ⟨h1.moved ha, h2.same hv, h3.moved ha, h4.moved ha⟩
/-! methods -/
abbrev xMR : Type := MethodName × ByteArray × Nat × Option FieldType × Nat × Bool × Nat
def xm (y : Nat) : xMR := xmt.getD y (⟨"", "", ""⟩, ⟨#[]⟩, 0, none, 0, false, 0)
def xname (y : Nat) : MethodName := (xm y).1
def xcode (y : Nat) : ByteArray := (xm y).2.1
def xmaxL (y : Nat) : Nat := (xm y).2.2.1
def xret (y : Nat) : Option FieldType := (xm y).2.2.2.1
def xkey (y : Nat) : Nat := (xm y).2.2.2.2.1
def xstat (y : Nat) : Bool := (xm y).2.2.2.2.2.1
def xnarg (y : Nat) : Nat := (xm y).2.2.2.2.2.2
/-- the tables' words that stay over a call -/
def xtbl : List Cond := lw_tbl.filter goodWord
theorem xin {w : Cond} (h : w ∈ lw_tbl) (hg : goodWord w = true) : w ∈ xtbl := List.mem_filter.mpr ⟨h, hg⟩
def xwords (y : Nat) : List Cond := .code (xname y) (xcode y) (xmaxL y) (xret y) :: xtbl
def xFr (g : xG) (y : Nat) (p : Program) (s : State) (m : MethodId) (args : Array Value) (meth : Method) (c : Code) : Prop :=
  p.tables.exec = Jvm.exec ∧ c.code = xcode y ∧ meth.sig.returnType = xret y ∧ c.maxLocals = xmaxL y ∧ s.vm.findClass (xname y).cls = some m.cls ∧ (∀ w ∈ xwords y, w.before args s = true) ∧ meth.locks = false ∧ va_K g.1 vwCl (xtys g) s ∧ xS g s s.heap ∧ xJ g ∧ y < xnM
def xvo (r : Option xV) : Prop := ∀ v, r = some v → xvd v
def xQ (g : xG) (r : Option xV) (h' : xH) : Array Value → State → Outcome → State → Prop := fun _ st o t => o = .returned (r.map (xcv g)) ∧ va_P g.1 vwCl (xws g h') t.heap ∧ va_F (xA g) st t ∧ xhd h' ∧ xvo r
def xroom (d : Nat) : Room := { frames := d, cells := 0, slots := 0, locals := 60 * d }
def xvl (st : List xV) : Prop := ∀ v ∈ st, xvd v
def xvq (ls : List (Nat × xV)) : Prop := ∀ q ∈ ls, xvd q.2
theorem xvl.c {v : xV} {st : List xV} (h : xvd v) (h2 : xvl st) : xvl (v :: st) := fun x hx => (List.mem_cons.mp hx).elim (fun e => e ▸ h) (h2 x)
theorem xvl.t {v : xV} {st : List xV} (h : xvl (v :: st)) : xvl st := fun x hx => h x (List.mem_cons_of_mem _ hx)
theorem xvl.h {v : xV} {st : List xV} (h : xvl (v :: st)) : xvd v := h v List.mem_cons_self
/-- THE JUDGEMENT: a frame of method y at pc, with these locals and this stack over this store, comes to its end with the answer r and the store h' -/
def xEv (g : xG) (l : Launch) (d y pc : Nat) (ls : List (Nat × xV)) (st : List xV) (h : xH) (r : Option xV) (h' : xH) : Prop :=
  ∀ (p : Program) (e : Env) (s : State) (m : MethodId) (args : Array Value) (below : List Frame) (meth : Method) (c : Code) (H : Heap) (locs : List Loc) (la : Array Slot),
    xFr g y p s m args meth c → xvq ls → xvl st → xhd h → va_P g.1 vwCl (xws g h) H → va_S (xA g) s.heap H locs → lv_has la (xmaxL y) (ls.map (fun q => (q.1, xcv g q.2))) →
    W p l e (xroom d) s m args below meth c H locs 0 0 (MQ below (xQ g r h') args s 0 0 (xA g)) (F0 m pc la (st.map (xcv g)))
/-- a method's contract over the store -/
def xC (g : xG) (l : Launch) (d y : Nat) (as : List xV) (h : xH) (r : Option xV) (h' : xH) : Prop :=
  xvl as → xhd h → Met l (xname y) (xwords y) (xroom d) (va_Pc (as.map (xcv g)) (fun U => va_P g.1 vwCl (xws g h) U.heap ∧ va_K g.1 vwCl (xtys g) U ∧ xS g U U.heap ∧ xJ g)) (xQ g r h') 0 0 (xA g)
