/-! THE CLAIM OUT OF ONE WALK OF THE LAW'S BODY. Your part is whole_start (and what it stands on); all else here is the same for every law, but numbers. -/
def R_law : String := "BeanTrugLaw"
def lw_P (b : Addr) (xs : List Int32) (args : Array Value) (s : State) : Prop := args = #[.ref b] ∧ s.IntsAt b xs ∧ xs.length ≤ 3072 ∧ (Jvm.Cond.and given_1 narrow_1).before args s = true
def lw_Q (_ : Array Value) (s : State) (o : Outcome) (t : State) : Prop := o = .returned (some (.int 1)) ∧ Framed s o t [] 600000 7302250
def lw_Z (below : List Frame) (a : Array Value) (s : State) : State → Prop := fun t => ∃ o, t.status = .running ∧ Ended t below o ∧ lw_Q a s o t
/-- the law's own end, with 1 on the stack, nothing written that was there before, its room as the claim has it -/
theorem lw_ret {p : Program} {l : Launch} {e : Env} {s : State} {m : MethodId} {below : List Frame} {meth : Method} {c : Code} {b : Nat} (hx : p.tables.exec = Jvm.exec) (hb : c.code = code) (hr : meth.sig.returnType = ret) (hlocks : meth.locks = false) {pc : Nat} {H : Heap} {ls : Array Slot} (hdg : decode code pc = .ok (.ireturn, 1)) : W p l e room_1 s m #[Value.ref b] below meth c H [] 600000 7302250 (lw_Z below #[Value.ref b] s) (F0 m pc ls [.int 1]) := by
  intro T hT X
  obtain ⟨fs, hret, hrun, hended, hW, hframe⟩ := X.leave (v := some (.int 1)) (hlocks := hlocks) (fun h => by rw [hr] at h; cases h)
  have hmeth' : T.vm.method? m = some meth := X.method'
  refine ⟨T.setFrames fs, ?_, .returned (some (.int 1)), hrun, hended, rfl, ⟨_, rfl⟩, hW, hframe⟩
  jvm_step X.here [X.here.top, hx, hb, hdg, hmeth', hr, ret, narrow_b1]
  (try refine ⟨rfl, ?_⟩); (try refine ⟨rfl, ?_⟩)
  first | (intro acts; rw [hret _ acts rfl rfl rfl]) | rw [hret _ _ rfl rfl rfl]
  exact Steps.refl _
/-- what holds at the law's entry: the machine, the code, the tables' words (any of lw_tbl by 'hts w (by decide +kernel)'), the script of L ints xs at the cell b, what the Statement gives of the start (any of its parts by flat_of_before) -/
def lw_At (p : Program) (s : State) (m : MethodId) (meth : Method) (c : Code) (b L : Nat) (xs : Nat → Int32) : Prop :=
  p.tables.exec = Jvm.exec ∧ c.code = code ∧ meth.sig.returnType = ret ∧ c.maxLocals = 4 ∧ s.vm.findClass R_law = some m.cls ∧ (∀ w ∈ lw_tbl, w.before #[Value.ref b] s = true) ∧ va_X b L xs s s.heap ∧ b < s.heap.size ∧ meth.locks = false ∧ (Jvm.Cond.and given_1 narrow_1).before #[Value.ref b] s = true
theorem xtbl_lw {w : Cond} (h : w ∈ xtbl) : w ∈ lw_tbl := (List.mem_filter.mp h).1
theorem lw_K {args : Array Value} {s : State} (hts : ∀ w ∈ lw_tbl, w.before args s = true) : ∃ (D : va_G) (κ : Nat → ClassId), va_K D vwCl (ctys κ) s ∧ va_AO "BeanTrug$Rule" s ∧ va_AO "BeanTrug$Scene" s ∧ va_AO "BeanTrug$State" s := by
  have h1 : ∀ c : Nat, ∃ q : ClassId × (Nat → Nat), c < 13 → u_Kn s (xcl c).1 (xcl c).2.1 (xcl c).2.2 q.1 q.2 := by
    intro c
    by_cases hc : c < 13
    · obtain ⟨-, -, -, -, -, hcn, hins, -, -⟩ := cm_at hc
      obtain ⟨cC, iS, hk⟩ := u_known (C := (xcl c).1) (T := (xcl c).2.1) (N := (xcl c).2.2) (n := (xcl c).2.2) hts (fun w hw => xtbl_lw ((xcl_ok c _ (xcl_at hc)).1 w hw)) (by rw [hcn]; exact hts _ hins)
      exact ⟨(cC, iS), fun _ => hk⟩
    · exact ⟨(0, fun _ => 0), fun h => absurd h hc⟩
  obtain ⟨f, hf⟩ := Classical.axiomOfChoice h1
  obtain ⟨a0, k0, m0, f0, g0, e0⟩ := Cond.arrayClass_spec (hts _ cac0)
  obtain ⟨a1, k1, m1, f1, g1, e1⟩ := Cond.arrayClass_spec (hts _ cac1)
  obtain ⟨a2, k2, m2, f2, g2, e2⟩ := Cond.arrayClass_spec (hts _ cac2)
  obtain ⟨a3, k3, m3, f3, g3, e3⟩ := Cond.arrayClass_spec (hts _ cac3)
  obtain ⟨m4, a4, k4, p4, q4, g4, e4, f4⟩ := Cond.arrayOver_spec (hts _ cac4)
  obtain ⟨m5, a5, k5, p5, q5, g5, e5, f5⟩ := Cond.arrayOver_spec (hts _ cac5)
  obtain ⟨m6, a6, k6, p6, q6, g6, e6, f6⟩ := Cond.arrayOver_spec (hts _ cac6)
  refine ⟨((fun c => (f c).1), (fun c => (f c).2)), (fun t => match t with | 0 => a0 | 1 => a1 | 2 => a2 | 3 => a3 | 4 => a4 | 5 => a5 | _ => a6), ⟨fun c q hq => ?_, fun k q hq => ?_⟩, hts _ cac4, hts _ cac5, hts _ cac6⟩
  · have hc : c < 13 := (List.getElem?_eq_some_iff.mp hq).1
    rw [xcl_at hc] at hq
    rw [← Option.some.inj hq]
    exact hf c hc
  · match k, hq with
    | 0, hq => cases hq; exact ⟨fun n z => ⟨(fun k h => by cases h), k0, g0, m0, e0⟩, f0⟩
    | 1, hq => cases hq; exact ⟨fun n z => ⟨(fun k h => by cases h), k1, g1, m1, e1⟩, f1⟩
    | 2, hq => cases hq; exact ⟨fun n z => ⟨(fun k h => by cases h), k2, g2, m2, e2⟩, f2⟩
    | 3, hq => cases hq; exact ⟨fun n z => ⟨(fun k h => by cases h), k3, g3, m3, e3⟩, f3⟩
    | 4, hq => cases hq; exact ⟨fun n z => ⟨(fun k h => by cases h), k4, g4, m4, e4⟩, k4, m4, g4, e4, p4, f4⟩
    | 5, hq => cases hq; exact ⟨fun n z => ⟨(fun k h => by cases h), k5, g5, m5, e5⟩, k5, m5, g5, e5, p5, f5⟩
    | 6, hq => cases hq; exact ⟨fun n z => ⟨(fun k h => by cases h), k6, g6, m6, e6⟩, k6, m6, g6, e6, p6, f6⟩
    | k + 7, hq => simp [ctys] at hq
theorem lw_sr : Cond.stringRef "BeanTrug$Tape" 69 "sorrow weight time deep over many loose left load rest minute step trug under carrier lift if or and not" ∈ lw_tbl := xt3 (List.mem_of_getElem? (i := 29) rfl)
theorem lw_l1 : Cond.laysStatic "java/lang/String" "COMPACT_STRINGS" "Z" ∈ lw_tbl := xt3 (List.mem_of_getElem? (i := 39) rfl)
theorem lw_l2 : Cond.laysStatic "jdk/internal/util/Preconditions" "SIOOBE_FORMATTER" "Ljava/util/function/BiFunction;" ∈ lw_tbl := xt3 (List.mem_of_getElem? (i := 55) rfl)
abbrev lw_tm : Term := .string "BeanTrug$Tape" 69
theorem lw_fl : Cond.exactly lw_tm "java/lang/String" ∈ flatC (Jvm.Cond.and given_1 narrow_1) ∧ Cond.eq (.field lw_tm "java/lang/String" "coder" "B") (.int 0) ∈ flatC (Jvm.Cond.and given_1 narrow_1) ∧ Cond.arrayOf (.field lw_tm "java/lang/String" "value" "[B") .byte ∈ flatC (Jvm.Cond.and given_1 narrow_1) ∧ Cond.eq (.length (.field lw_tm "java/lang/String" "value" "[B")) (.int (Int32.ofNat xWords.length)) ∈ flatC (Jvm.Cond.and given_1 narrow_1) ∧ Cond.eq (.static "java/lang/String" "COMPACT_STRINGS" "Z") (.int 1) ∈ flatC (Jvm.Cond.and given_1 narrow_1) ∧ Cond.isRef (.static "jdk/internal/util/Preconditions" "SIOOBE_FORMATTER" "Ljava/util/function/BiFunction;") ∈ flatC (Jvm.Cond.and given_1 narrow_1) := by decide +kernel
theorem lw_fl2 : ∀ j : Nat, j < xWords.length → Cond.eq (.elem (.field lw_tm "java/lang/String" "value" "[B") (.int (Int32.ofNat j))) (.int (xWords.getD j 0)) ∈ flatC (Jvm.Cond.and given_1 narrow_1) := by decide +kernel
theorem lw_S {args : Array Value} {s : State} (hts : ∀ w ∈ lw_tbl, w.before args s = true) (hgv : (Jvm.Cond.and given_1 narrow_1).before args s = true) {A : Nat → Prop} (hA : ∀ a : Nat, a < s.heap.size → ¬ A a) : ∃ sd : Nat × Nat, vk_S 1 [xWords.length] [xWords] (fun _ => sd.1) (fun _ => sd.2) A s s.heap ∧ vk_R "BeanTrug$Tape" 69 "sorrow weight time deep over many loose left load rest minute step trug under carrier lift if or and not" sd.1 s ∧ va_Z "java/lang/String" "COMPACT_STRINGS" "Z" (.int 1) A s s.heap ∧ va_Zq "jdk/internal/util/Preconditions" "SIOOBE_FORMATTER" "Ljava/util/function/BiFunction;" A s s.heap := by
  have fl := flat_of_before _ hgv
  have z : ∀ i : Nat, i < 1 → i = 0 := fun i h => by omega
  obtain ⟨adK, adV, h1, h2⟩ := vk_Sof (args := args) (s := s) (N := 1) (tm := fun _ => lw_tm) (len := [xWords.length]) (byt := [xWords]) (A := A) (fun i hi => by rw [z i hi]; decide +kernel) (fun i _ => fl _ lw_fl.1) (fun i _ => fl _ lw_fl.2.1) (fun i _ => fl _ lw_fl.2.2.1) (fun i hi => by rw [z i hi]; exact fl _ lw_fl.2.2.2.1) (fun i hi j hj => by
      have hi := z i hi
      subst hi
      exact fl _ (lw_fl2 j hj)) (fun i j hi hj hne => absurd (by rw [z i hi, z j hj]) hne) hA
  refine ⟨(adK 0, adV 0), ⟨fun i hi => ?_, fun i j hi hj _ => by rw [z i hi, z j hj]⟩, vk_R.of (hts _ lw_sr) (h2 0 (by decide)), va_Zof (hts _ lw_l1) (hts _ jn_String) (va_eqi (fl _ lw_fl.2.2.2.2.1)) hA, va_Zqof (hts _ lw_l2) (hts _ jn_Preconditions) (fl _ lw_fl.2.2.2.2.2) hA⟩
  have := h1.1 i hi
  rw [z i hi] at this ⊢
  exact this
theorem xh0_hd : xhd xh0 := by
  intro c k i j h1 h2
  have h3 : (if c = 10 ∧ k = 3 then some 6 else none) = some j := h2
  split at h3
  · rename_i hc
    obtain ⟨rfl, rfl⟩ := hc
    cases h3
    decide +kernel
  · cases h3
