/-! THE STRING CONSTANT OF WORDS: String.length and charAt as the JDK has them (laid by wip/whole/gen_str.py) -/
section XSTR
variable {g : xG} {l : Launch} {h : xH}
theorem jc_coder : Cond.code yJ0_coder_7d493 cJ0_coder_7d493 1 (some FieldType.byte) ∈ lw_tbl := xt3 (List.mem_of_getElem? (i := 37) rfl)
theorem ji_coder : Cond.instanceMethod yJ0_coder_7d493 ∈ lw_tbl := xt3 (List.mem_of_getElem? (i := 35) rfl)
theorem js_coder : Cond.selects "java/lang/String" yJ0_coder_7d493 yJ0_coder_7d493 ∈ lw_tbl := xt3 (List.mem_of_getElem? (i := 36) rfl)
theorem jc_isLatin1 : Cond.code yJ0_isLatin1_aae02 cJ0_isLatin1_aae02 1 (some FieldType.boolean) ∈ lw_tbl := xt3 (List.mem_of_getElem? (i := 47) rfl)
theorem ji_isLatin1 : Cond.instanceMethod yJ0_isLatin1_aae02 ∈ lw_tbl := xt3 (List.mem_of_getElem? (i := 45) rfl)
theorem js_isLatin1 : Cond.selects "java/lang/String" yJ0_isLatin1_aae02 yJ0_isLatin1_aae02 ∈ lw_tbl := xt3 (List.mem_of_getElem? (i := 46) rfl)
theorem jc_length : Cond.code yJ0_length_8abf5 cJ0_length_8abf5 1 (some FieldType.int) ∈ lw_tbl := xt3 (List.mem_of_getElem? (i := 33) rfl)
theorem ji_length : Cond.instanceMethod yJ0_length_8abf5 ∈ lw_tbl := xt3 (List.mem_of_getElem? (i := 31) rfl)
theorem js_length : Cond.selects "java/lang/String" yJ0_length_8abf5 yJ0_length_8abf5 ∈ lw_tbl := xt3 (List.mem_of_getElem? (i := 32) rfl)
theorem jc_pcheck : Cond.code yJ3_checkIndex_8e157 cJ3_checkIndex_8e157 3 (some FieldType.int) ∈ lw_tbl := xt3 (List.mem_of_getElem? (i := 58) rfl)
theorem ji_pcheck : Cond.static yJ3_checkIndex_8e157 ∈ lw_tbl := xt3 (List.mem_of_getElem? (i := 57) rfl)
theorem jc_scheck : Cond.code yJ0_checkIndex_df160 cJ0_checkIndex_df160 2 none ∈ lw_tbl := xt3 (List.mem_of_getElem? (i := 53) rfl)
theorem ji_scheck : Cond.static yJ0_checkIndex_df160 ∈ lw_tbl := xt3 (List.mem_of_getElem? (i := 52) rfl)
theorem jc_lcharAt : Cond.code yJ1_charAt_3b067 cJ1_charAt_3b067 2 (some FieldType.char) ∈ lw_tbl := xt3 (List.mem_of_getElem? (i := 50) rfl)
theorem ji_lcharAt : Cond.static yJ1_charAt_3b067 ∈ lw_tbl := xt3 (List.mem_of_getElem? (i := 49) rfl)
theorem jc_charAt : Cond.code yJ0_charAt_5068e cJ0_charAt_5068e 2 (some FieldType.char) ∈ lw_tbl := xt3 (List.mem_of_getElem? (i := 43) rfl)
theorem ji_charAt : Cond.instanceMethod yJ0_charAt_5068e ∈ lw_tbl := xt3 (List.mem_of_getElem? (i := 41) rfl)
theorem js_charAt : Cond.selects "java/lang/String" yJ0_charAt_5068e yJ0_charAt_5068e ∈ lw_tbl := xt3 (List.mem_of_getElem? (i := 42) rfl)
theorem jn_String : Cond.initialized "java/lang/String" ∈ lw_tbl := xt1 (List.mem_of_getElem? (i := 14) rfl)
theorem jn_StringLatin1 : Cond.initialized "java/lang/StringLatin1" ∈ lw_tbl := xt1 (List.mem_of_getElem? (i := 15) rfl)
theorem jn_Preconditions : Cond.initialized "jdk/internal/util/Preconditions" ∈ lw_tbl := xt1 (List.mem_of_getElem? (i := 16) rfl)
theorem jl_BeanTrug_Tape_length : Cond.methodLink "BeanTrug$Tape" 71 yJ0_length_8abf5 ∈ lw_tbl := xt3 (List.mem_of_getElem? (i := 30) rfl)
theorem jl_String_coder : Cond.methodLink "java/lang/String" 335 yJ0_coder_7d493 ∈ lw_tbl := xt3 (List.mem_of_getElem? (i := 34) rfl)
theorem jl_BeanTrug_Tape_charAt : Cond.methodLink "BeanTrug$Tape" 76 yJ0_charAt_5068e ∈ lw_tbl := xt3 (List.mem_of_getElem? (i := 40) rfl)
theorem jl_String_isLatin1 : Cond.methodLink "java/lang/String" 492 yJ0_isLatin1_aae02 ∈ lw_tbl := xt3 (List.mem_of_getElem? (i := 44) rfl)
theorem jl_String_lcharAt : Cond.methodLink "java/lang/String" 495 yJ1_charAt_3b067 ∈ lw_tbl := xt3 (List.mem_of_getElem? (i := 48) rfl)
theorem jl_StringLatin1_scheck : Cond.methodLink "java/lang/StringLatin1" 9 yJ0_checkIndex_df160 ∈ lw_tbl := xt3 (List.mem_of_getElem? (i := 51) rfl)
theorem jl_String_pcheck : Cond.methodLink "java/lang/String" 1059 yJ3_checkIndex_8e157 ∈ lw_tbl := xt3 (List.mem_of_getElem? (i := 56) rfl)
theorem jf_COMPACT_STRINGS : Cond.fieldLink "java/lang/String" 38 "java/lang/String" "COMPACT_STRINGS" "Z" ∈ lw_tbl := xt3 (List.mem_of_getElem? (i := 38) rfl)
theorem jf_SIOOBE_FORMATTER : Cond.fieldLink "java/lang/String" 1053 "jdk/internal/util/Preconditions" "SIOOBE_FORMATTER" "Ljava/util/function/BiFunction;" ∈ lw_tbl := xt3 (List.mem_of_getElem? (i := 54) rfl)
theorem jf_value : Cond.fieldLink "java/lang/String" 9 "java/lang/String" "value" "[B" ∈ lw_tbl := xt8 (List.mem_of_getElem? (i := 57) rfl)
theorem jf_coder : Cond.fieldLink "java/lang/String" 15 "java/lang/String" "coder" "B" ∈ lw_tbl := xt8 (List.mem_of_getElem? (i := 58) rfl)
def xjw (y : MethodName) (cc : ByteArray) (n : Nat) (rt : Option FieldType) : List Cond := .code y cc n rt :: xtbl
def xjF (g : xG) (h : xH) (y : MethodName) (cc : ByteArray) (n : Nat) (rt : Option FieldType) (p : Program) (s : State) (m : MethodId) (args : Array Value) (meth : Method) (c : Code) : Prop :=
  p.tables.exec = Jvm.exec ∧ c.code = cc ∧ meth.sig.returnType = rt ∧ c.maxLocals = n ∧ s.vm.findClass y.cls = some m.cls ∧ (∀ w ∈ xjw y cc n rt, w.before args s = true) ∧ meth.locks = false ∧ va_P g.1 vwCl (xws g h) s.heap ∧ va_K g.1 vwCl (xtys g) s ∧ xS g s s.heap ∧ xJ g
def xjM (g : xG) (l : Launch) (d : Nat) (h : xH) (y : MethodName) (cc : ByteArray) (n : Nat) (rt : Option FieldType) (av : List Value) (r : Option xV) : Prop := Met l y (xjw y cc n rt) (xroom d) (va_Pc av (fun U => va_P g.1 vwCl (xws g h) U.heap ∧ va_K g.1 vwCl (xtys g) U ∧ xS g U U.heap ∧ xJ g)) (xQ g r h) 0 0 (xA g)
theorem xj_of {d n : Nat} {y : MethodName} {cc : ByteArray} {rt : Option FieldType} {av : List Value} {r : Option xV} (hpl : plainFor y = true) (hsz : (lg_sl av).length ≤ n)
    (body : ∀ p e s m below meth c la, xjF g h y cc n rt p s m av.toArray meth c → lv_has la n (lv_args 0 av) → W p l e (xroom d) s m av.toArray below meth c s.heap [] 0 0 (MQ below (xQ g r h) av.toArray s 0 0 (xA g)) (F0 m 0 la [])) : xjM g l d h y cc n rt av r := by
  refine va_MetF (cc := cc) (maxL := n) (ret := rt) hpl rfl ?_
  intro p e s m args below meth c s₁ B hml hv2
  obtain ⟨rfl, hP, hK, hSt, hJ⟩ := hv2
  rw [lg_entry_eq]
  exact body p e s m below meth c _ ⟨B.exec, B.bytes, B.returns, hml, findClass_of_methodNamed B.named, atoms_spec (ws := xjw y cc n rt) B.pre, B.notSynchronized, hP, hK, hSt, hJ⟩ (lv_entry av hsz)
theorem xjF.wd {y : MethodName} {cc : ByteArray} {n : Nat} {rt : Option FieldType} {p : Program} {s : State} {m : MethodId} {args : Array Value} {meth : Method} {c : Code} (F : xjF g h y cc n rt p s m args meth c) {w : Cond} (hw : w ∈ lw_tbl) (hg : goodWord w = true) : w.before args s = true := F.2.2.2.2.2.1 _ (List.mem_cons_of_mem _ (xin hw hg))
theorem xbackW {p : Program} {e : Env} {R : Room} {s : State} {m : MethodId} {args : Array Value} {below : List Frame} {meth : Method} {c0 : Code} {H : Heap} {locs : List Loc} {la : Array Slot} {r2 : Option xV} {h2 : xH} {a : Array Value} {st0 rest : List Value} {pc : Nat} {Q : State → Prop}
    (hrun : va_Run p l e R s m args below meth c0 H locs 0 0 0 0 (F0 m pc la st0) rest (xQ g r2 h2 a) (xA g)) (hS : va_S (xA g) s.heap H locs)
    (k : ∀ (H1 : Heap) (locs1 : List Loc), va_P g.1 vwCl (xws g h2) H1 → va_S (xA g) s.heap H1 locs1 → xhd h2 → W p l e R s m args below meth c0 H1 locs1 0 0 Q (F0 m (pc + 3) la ((r2.map (xcv g)).toList ++ rest))) : W p l e R s m args below meth c0 H locs 0 0 Q (F0 m pc la st0) := by
  intro T hT X
  obtain ⟨v, st₀, t, T', L, h0, X', hL, e1, e2, ⟨hv, hP2, hF2, hh2, hvo⟩, go⟩ := hrun T hT X
  have hv : v = r2.map (xcv g) := by injection hv
  subst hv
  obtain ⟨hz, hk⟩ := hF2
  rw [h0] at hz hk
  have hS1 : va_S (xA g) s.heap T'.heap (locs ++ L) := ⟨Nat.le_trans hS.1 (by rw [e1]; exact hz), fun q a1 a2 => by rw [e1, hk q (Nat.lt_of_lt_of_le a1 hS.1) a2]; exact hS.2.1 q a1 a2, fun q hq => by
      rcases List.mem_append.mp hq with h | h
      · exact hS.2.2 q h
      · exact hL q h⟩
  obtain ⟨t2, a1, b1⟩ := k T'.heap (locs ++ L) (by rw [e1]; exact hP2) hS1 hh2 T' rfl X'
  exact ⟨t2, go t2 a1, b1⟩
theorem xgw {y : MethodName} {cc : ByteArray} {n : Nat} {rt : Option FieldType} {ys : List Cond} {big : List Cond} (hb : ∀ w ∈ xtbl, w ∈ big) (hc : Cond.code y cc n rt ∈ lw_tbl) (hy : ∀ w ∈ ys, w ∈ lw_tbl ∧ goodWord w = true) : GoodIn big (ys ++ xjw y cc n rt) := by
  intro w hw
  rcases List.mem_append.mp hw with hw | hw
  · exact ⟨hb _ (xin (hy w hw).1 (hy w hw).2), good_of_word (hy w hw).2⟩
  · rcases List.mem_cons.mp hw with e | e
    · rw [e]; exact ⟨hb _ (xin hc rfl), Or.inl rfl⟩
    · exact ⟨hb _ e, good_of_word (List.mem_filter.mp e).2⟩
theorem xjblind {av : List Value} : FrameBlind (va_Pc av (fun U => va_P g.1 vwCl (xws g h) U.heap ∧ va_K g.1 vwCl (xtys g) U ∧ xS g U U.heap ∧ xJ g)) :=
  fun a U gg mk q => ⟨q.1, q.2.1, va_K.moved (u := U) (U := U.calling gg mk a) (Vm.Alike.refl U.vm) q.2.2.1, xS.same (U := U) (T := U.calling gg mk a) rfl q.2.2.2.1, q.2.2.2.2⟩
set_option maxHeartbeats 4000000 in
set_option maxRecDepth 100000 in
theorem xj_coder (hh : xhd h) : xjM g l 0 h yJ0_coder_7d493 cJ0_coder_7d493 1 (some FieldType.byte) [.ref g.2.2.2.1] (some (xi 0)) := by
  refine xj_of (by decide +kernel) (Nat.le_of_ble_eq_true rfl) ?_
  intro p e s m below meth c la F hl
  have hS : va_S (xA g) s.heap s.heap [] := va_S.rf
  have hx := F.1
  have hb := F.2.1
  have hr := F.2.2.1
  have hlk := F.2.2.2.2.2.2.1
  have hown := F.2.2.2.2.1
  have hP := F.2.2.2.2.2.2.2.1
  have hK := F.2.2.2.2.2.2.2.2.1
  have hX := F.2.2.2.2.2.2.2.2.2.1
  have hJ := F.2.2.2.2.2.2.2.2.2.2
  have hE := (hX.1.1 0 (by decide))
  refine va_gets hx hb hX.2.2.1 hS hown (F.wd jf_COMPACT_STRINGS rfl) (fun _ h9 => h9) (show decode cJ0_coder_7d493 0 = .ok (.getstatic 38, 3) by decide +kernel) ?_
  refine lv_if_eq (tgt := 13) hx hb (show decode cJ0_coder_7d493 3 = .ok (.ifCond .eq 10, 3) by decide +kernel) (by decide) (fun q => absurd q (by decide)) (fun _ => ?_)
  refine lv_aload_n hx hb (show decode cJ0_coder_7d493 6 = .ok (.aload_n 0, 1) by decide +kernel) rfl (lv_at hl 0 rfl) ?_
  refine vk_getf hx hb hE.2.1 hS hown (F.wd jf_coder rfl) (fun _ h9 => h9) (show decode cJ0_coder_7d493 7 = .ok (.getfield 15, 3) by decide +kernel) ?_
  refine lv_goto (tgt := 14) hx hb (show decode cJ0_coder_7d493 10 = .ok (.goto 4, 3) by decide +kernel) (by decide) ?_
  exact W.zret hx hb hr rfl (fun t ht hW => ⟨rfl, by rw [ht]; exact hP, hS.F ht, hh, fun v e => by cases e; exact trivial⟩) hS.2.2 (show decode cJ0_coder_7d493 14 = .ok (.ireturn, 1) by decide +kernel) hlk
set_option maxHeartbeats 4000000 in
set_option maxRecDepth 100000 in
theorem xj_isLatin1 (hh : xhd h) : xjM g l 0 h yJ0_isLatin1_aae02 cJ0_isLatin1_aae02 1 (some FieldType.boolean) [.ref g.2.2.2.1] (some (xi 1)) := by
  refine xj_of (by decide +kernel) (Nat.le_of_ble_eq_true rfl) ?_
  intro p e s m below meth c la F hl
  have hS : va_S (xA g) s.heap s.heap [] := va_S.rf
  have hx := F.1
  have hb := F.2.1
  have hr := F.2.2.1
  have hlk := F.2.2.2.2.2.2.1
  have hown := F.2.2.2.2.1
  have hP := F.2.2.2.2.2.2.2.1
  have hK := F.2.2.2.2.2.2.2.2.1
  have hX := F.2.2.2.2.2.2.2.2.2.1
  have hJ := F.2.2.2.2.2.2.2.2.2.2
  have hE := (hX.1.1 0 (by decide))
  refine va_gets hx hb hX.2.2.1 hS hown (F.wd jf_COMPACT_STRINGS rfl) (fun _ h9 => h9) (show decode cJ0_isLatin1_aae02 0 = .ok (.getstatic 38, 3) by decide +kernel) ?_
  refine lv_if_eq (tgt := 17) hx hb (show decode cJ0_isLatin1_aae02 3 = .ok (.ifCond .eq 14, 3) by decide +kernel) (by decide) (fun q => absurd q (by decide)) (fun _ => ?_)
  refine lv_aload_n hx hb (show decode cJ0_isLatin1_aae02 6 = .ok (.aload_n 0, 1) by decide +kernel) rfl (lv_at hl 0 rfl) ?_
  refine vk_getf hx hb hE.2.1 hS hown (F.wd jf_coder rfl) (fun _ h9 => h9) (show decode cJ0_isLatin1_aae02 7 = .ok (.getfield 15, 3) by decide +kernel) ?_
  refine lv_if_ne (tgt := 17) hx hb (show decode cJ0_isLatin1_aae02 10 = .ok (.ifCond .ne 7, 3) by decide +kernel) (by decide) (fun q => absurd rfl q) (fun _ => ?_)
  refine lv_iconst (v := 1) hx hb (show decode cJ0_isLatin1_aae02 13 = .ok (.iconst 1, 1) by decide +kernel) (by decide) ?_
  refine lv_goto (tgt := 18) hx hb (show decode cJ0_isLatin1_aae02 14 = .ok (.goto 4, 3) by decide +kernel) (by decide) ?_
  exact W.zret hx hb hr rfl (fun t ht hW => ⟨rfl, by rw [ht]; exact hP, hS.F ht, hh, fun v e => by cases e; exact trivial⟩) hS.2.2 (show decode cJ0_isLatin1_aae02 18 = .ok (.ireturn, 1) by decide +kernel) hlk
set_option maxHeartbeats 4000000 in
set_option maxRecDepth 100000 in
theorem xj_length (hh : xhd h) : xjM g l 1 h yJ0_length_8abf5 cJ0_length_8abf5 1 (some FieldType.int) [.ref g.2.2.2.1] (some (xi (Int32.ofNat xWords.length))) := by
  refine xj_of (by decide +kernel) (Nat.le_of_ble_eq_true rfl) ?_
  intro p e s m below meth c la F hl
  have hS : va_S (xA g) s.heap s.heap [] := va_S.rf
  have hx := F.1
  have hb := F.2.1
  have hr := F.2.2.1
  have hlk := F.2.2.2.2.2.2.1
  have hown := F.2.2.2.2.1
  have hP := F.2.2.2.2.2.2.2.1
  have hK := F.2.2.2.2.2.2.2.2.1
  have hX := F.2.2.2.2.2.2.2.2.2.1
  have hJ := F.2.2.2.2.2.2.2.2.2.2
  have hE := (hX.1.1 0 (by decide))
  refine lv_aload_n hx hb (show decode cJ0_length_8abf5 0 = .ok (.aload_n 0, 1) by decide +kernel) rfl (lv_at hl 0 rfl) ?_
  refine vk_getf hx hb hE.2.2.1 hS hown (F.wd jf_value rfl) (fun _ h9 => h9) (show decode cJ0_length_8abf5 1 = .ok (.getfield 9, 3) by decide +kernel) ?_
  refine va_tlen (v := Int32.ofNat xWords.length) hx hb hE.2.2.2 hS rfl (show decode cJ0_length_8abf5 4 = .ok (.arraylength, 1) by decide +kernel) ?_
  refine lv_aload_n hx hb (show decode cJ0_length_8abf5 5 = .ok (.aload_n 0, 1) by decide +kernel) rfl (lv_at hl 0 rfl) ?_
  refine xbackW (va_runV (own := "java/lang/String") (C := "java/lang/String") (b := g.2.2.2.1) (As := []) (rest := [.int (Int32.ofNat xWords.length)]) ⟨hx, hb, F.2.2.2.1, hown, F.2.2.2.2.2.1⟩ (xj_coder (g := g) (l := l) (h := h) hh) (cwV (ws' := xtbl) (bytes := cJ0_coder_7d493) (maxL := 1) (ret := (some FieldType.byte)) 0 F.2.2.2.2.2.1 (xgw (fun w hw => List.mem_cons_of_mem _ hw) jc_coder (List.forall_mem_cons.mpr ⟨⟨jl_String_coder, rfl⟩, List.forall_mem_cons.mpr ⟨⟨ji_coder, rfl⟩, List.forall_mem_cons.mpr ⟨⟨js_coder, rfl⟩, List.forall_mem_cons.mpr ⟨⟨jn_String, rfl⟩, fun _ h => absurd h List.not_mem_nil⟩⟩⟩⟩)) rfl rfl rfl (by decide +kernel) ⟨Nat.le_of_ble_eq_true rfl, Nat.le_of_ble_eq_true rfl⟩) ⟨xjblind, vk_recv (i := 0) hX.1 (by decide) hS, fun U hU hW => ⟨rfl, by rw [hU]; exact hP, va_K.moved hW.alike hK, hX.call hS hW hU, hJ⟩⟩ rfl rfl hl.1 rfl (lv_room (Nat.le_of_ble_eq_true rfl)) (show decode cJ0_length_8abf5 6 = .ok (.invokevirtual 335, 3) by decide +kernel) ⟨Nat.le_refl _, Nat.le_refl _⟩) hS (fun H locs hP hS _ => ?_)
  refine lv_ishr hx hb (show decode cJ0_length_8abf5 9 = .ok (.ishr, 1) by decide +kernel) ?_
  exact W.iret (v := Int32.ofNat xWords.length >>> ((0 : Int32) &&& 31)) hx hb hr (fun t ht hW => ⟨by show Outcome.returned (some (Value.int _)) = Outcome.returned (some (Value.int _)); rw [show Int32.ofNat xWords.length >>> ((0 : Int32) &&& 31) = Int32.ofNat xWords.length by decide +kernel], by rw [ht]; exact hP, hS.F ht, hh, fun v e => by cases e; exact trivial⟩) hS.2.2 (show decode cJ0_length_8abf5 10 = .ok (.ireturn, 1) by decide +kernel) hlk
set_option maxHeartbeats 4000000 in
set_option maxRecDepth 100000 in
theorem xj_pcheck (hh : xhd h) {a b : Int32} {f : Option Nat} (h1 : ¬ a < 0) (h2 : a < b) : xjM g l 0 h yJ3_checkIndex_8e157 cJ3_checkIndex_8e157 3 (some FieldType.int) [.int a, .int b, va_rf f] (some (xi a)) := by
  refine xj_of (by decide +kernel) (by cases f <;> exact Nat.le_of_ble_eq_true rfl) ?_
  intro p e s m below meth c la F hl
  have hS : va_S (xA g) s.heap s.heap [] := va_S.rf
  have hx := F.1
  have hb := F.2.1
  have hr := F.2.2.1
  have hlk := F.2.2.2.2.2.2.1
  have hown := F.2.2.2.2.1
  have hP := F.2.2.2.2.2.2.2.1
  have hK := F.2.2.2.2.2.2.2.2.1
  have hX := F.2.2.2.2.2.2.2.2.2.1
  have hJ := F.2.2.2.2.2.2.2.2.2.2
  have hE := (hX.1.1 0 (by decide))
  have hl2 : lv_has la 3 [(0, .int a), (1, .int b)] := lv_sub hl [0, 1] rfl
  refine lv_iload_n hx hb (show decode cJ3_checkIndex_8e157 0 = .ok (.iload_n 0, 1) by decide +kernel) rfl (lv_at hl2 0 rfl) ?_
  refine lv_if_lt (tgt := 9) hx hb (show decode cJ3_checkIndex_8e157 1 = .ok (.ifCond .lt 8, 3) by decide +kernel) (by decide) (fun q => absurd q h1) (fun _ => ?_)
  refine lv_iload_n hx hb (show decode cJ3_checkIndex_8e157 4 = .ok (.iload_n 0, 1) by decide +kernel) rfl (lv_at hl2 0 rfl) ?_
  refine lv_iload_n hx hb (show decode cJ3_checkIndex_8e157 5 = .ok (.iload_n 1, 1) by decide +kernel) rfl (lv_at hl2 1 rfl) ?_
  refine lv_icmp_lt (tgt := 16) hx hb (show decode cJ3_checkIndex_8e157 6 = .ok (.if_icmp .lt 10, 3) by decide +kernel) (by decide) (fun _ => ?_) (fun q => absurd h2 q)
  refine lv_iload_n hx hb (show decode cJ3_checkIndex_8e157 16 = .ok (.iload_n 0, 1) by decide +kernel) rfl (lv_at hl2 0 rfl) ?_
  exact W.iret hx hb hr (fun t ht hW => ⟨rfl, by rw [ht]; exact hP, hS.F ht, hh, fun v e => by cases e; exact trivial⟩) hS.2.2 (show decode cJ3_checkIndex_8e157 17 = .ok (.ireturn, 1) by decide +kernel) hlk
set_option maxHeartbeats 4000000 in
set_option maxRecDepth 100000 in
theorem xj_scheck (hh : xhd h) {a b : Int32} (h1 : ¬ a < 0) (h2 : a < b) : xjM g l 1 h yJ0_checkIndex_df160 cJ0_checkIndex_df160 2 none [.int a, .int b] none := by
  refine xj_of (by decide +kernel) (Nat.le_of_ble_eq_true rfl) ?_
  intro p e s m below meth c la F hl
  have hS : va_S (xA g) s.heap s.heap [] := va_S.rf
  have hx := F.1
  have hb := F.2.1
  have hr := F.2.2.1
  have hlk := F.2.2.2.2.2.2.1
  have hown := F.2.2.2.2.1
  have hP := F.2.2.2.2.2.2.2.1
  have hK := F.2.2.2.2.2.2.2.2.1
  have hX := F.2.2.2.2.2.2.2.2.2.1
  have hJ := F.2.2.2.2.2.2.2.2.2.2
  have hE := (hX.1.1 0 (by decide))
  refine lv_iload_n hx hb (show decode cJ0_checkIndex_df160 0 = .ok (.iload_n 0, 1) by decide +kernel) rfl (lv_at hl 0 rfl) ?_
  refine lv_iload_n hx hb (show decode cJ0_checkIndex_df160 1 = .ok (.iload_n 1, 1) by decide +kernel) rfl (lv_at hl 1 rfl) ?_
  have hZ : ∃ f : Option Nat, va_Z "jdk/internal/util/Preconditions" "SIOOBE_FORMATTER" "Ljava/util/function/BiFunction;" (va_rf f) (xA g) s s.heap := by
    rcases hX.2.2.2 with z | ⟨t, z⟩
    · exact ⟨none, z⟩
    · exact ⟨some t, z⟩
  obtain ⟨f, hZ⟩ := hZ
  refine va_gets hx hb hZ hS hown (F.wd jf_SIOOBE_FORMATTER rfl) (fun _ h9 => h9) (show decode cJ0_checkIndex_df160 2 = .ok (.getstatic 1053, 3) by decide +kernel) ?_
  refine xbackW (va_runS (own := "java/lang/String") (As := [.int a, .int b, va_rf f]) (rest := []) ⟨hx, hb, F.2.2.2.1, hown, F.2.2.2.2.2.1⟩ (xj_pcheck (g := g) (l := l) (h := h) hh h1 h2) (va_cwS (ws' := xtbl) (bytes := cJ3_checkIndex_8e157) (maxL := 3) (ret := (some FieldType.int)) 3 F.2.2.2.2.2.1 (xgw (fun w hw => List.mem_cons_of_mem _ hw) jc_pcheck (List.forall_mem_cons.mpr ⟨⟨jl_String_pcheck, rfl⟩, List.forall_mem_cons.mpr ⟨⟨ji_pcheck, rfl⟩, List.forall_mem_cons.mpr ⟨⟨jn_Preconditions, rfl⟩, fun _ h => absurd h List.not_mem_nil⟩⟩⟩)) rfl rfl rfl (by decide +kernel) ⟨Nat.le_of_ble_eq_true rfl, Nat.le_of_ble_eq_true rfl⟩) ⟨xjblind, fun U hU hW => ⟨rfl, by rw [hU]; exact hP, va_K.moved hW.alike hK, hX.call hS hW hU, hJ⟩⟩ rfl rfl hl.1 rfl (lv_room (Nat.le_of_ble_eq_true rfl)) (show decode cJ0_checkIndex_df160 5 = .ok (.invokestatic 1059, 3) by decide +kernel) ⟨Nat.le_refl _, Nat.le_refl _⟩) hS (fun H locs hP hS _ => ?_)
  refine lv_pop hx hb (show decode cJ0_checkIndex_df160 8 = .ok (.pop, 1) by decide +kernel) rfl ?_
  exact W.vret hx hb hr (fun t ht hW => ⟨rfl, by rw [ht]; exact hP, hS.F ht, hh, fun v e => by cases e⟩) hS.2.2 (show decode cJ0_checkIndex_df160 9 = .ok (.return_, 1) by decide +kernel) hlk
def xwc (j : Nat) : Int32 := xWords.getD j 0
theorem xwc_c : ∀ j, j < xWords.length → ((xwc j &&& 255).toUInt32 % 65536).toInt32 = xwc j ∧ narrow .char (.int (xwc j)) = .int (xwc j) := by decide +kernel
theorem xw_lt {j : Int32} (hin : vp_in j xWords.length) : ¬ j < 0 ∧ j < Int32.ofNat xWords.length := by
  refine ⟨fun q => hin (Or.inl q), ?_⟩
  obtain ⟨k, hk, e⟩ := vp_in_of hin (by decide +kernel)
  rw [e]
  exact nI_lt hk (by decide +kernel)
set_option maxHeartbeats 4000000 in
set_option maxRecDepth 100000 in
theorem xj_lcharAt (hh : xhd h) {j : Int32} (hin : vp_in j xWords.length) : xjM g l 2 h yJ1_charAt_3b067 cJ1_charAt_3b067 2 (some FieldType.char) [.ref g.2.2.2.2, .int j] (some (xi (xwc j.toNatClampNeg))) := by
  refine xj_of (by decide +kernel) (Nat.le_of_ble_eq_true rfl) ?_
  intro p e s m below meth c la F hl
  have hS : va_S (xA g) s.heap s.heap [] := va_S.rf
  have hx := F.1
  have hb := F.2.1
  have hr := F.2.2.1
  have hlk := F.2.2.2.2.2.2.1
  have hown := F.2.2.2.2.1
  have hP := F.2.2.2.2.2.2.2.1
  have hK := F.2.2.2.2.2.2.2.2.1
  have hX := F.2.2.2.2.2.2.2.2.2.1
  have hJ := F.2.2.2.2.2.2.2.2.2.2
  have hE := (hX.1.1 0 (by decide))
  have hlt : j.toNatClampNeg < xWords.length := Nat.not_le.mp fun q => hin (Or.inr q)
  refine lv_iload_n hx hb (show decode cJ1_charAt_3b067 0 = .ok (.iload_n 1, 1) by decide +kernel) rfl (lv_at hl 1 rfl) ?_
  refine lv_aload_n hx hb (show decode cJ1_charAt_3b067 1 = .ok (.aload_n 0, 1) by decide +kernel) rfl (lv_at hl 0 rfl) ?_
  refine va_tlen (v := Int32.ofNat xWords.length) hx hb hE.2.2.2 hS rfl (show decode cJ1_charAt_3b067 2 = .ok (.arraylength, 1) by decide +kernel) ?_
  refine xbackW (va_runS (own := "java/lang/StringLatin1") (As := [.int j, .int (Int32.ofNat xWords.length)]) (rest := []) ⟨hx, hb, F.2.2.2.1, hown, F.2.2.2.2.2.1⟩ (xj_scheck (g := g) (l := l) (h := h) hh (xw_lt hin).1 (xw_lt hin).2) (va_cwS (ws' := xtbl) (bytes := cJ0_checkIndex_df160) (maxL := 2) (ret := none) 2 F.2.2.2.2.2.1 (xgw (fun w hw => List.mem_cons_of_mem _ hw) jc_scheck (List.forall_mem_cons.mpr ⟨⟨jl_StringLatin1_scheck, rfl⟩, List.forall_mem_cons.mpr ⟨⟨ji_scheck, rfl⟩, List.forall_mem_cons.mpr ⟨⟨jn_String, rfl⟩, fun _ h => absurd h List.not_mem_nil⟩⟩⟩)) rfl rfl rfl (by decide +kernel) ⟨Nat.le_of_ble_eq_true rfl, Nat.le_of_ble_eq_true rfl⟩) ⟨xjblind, fun U hU hW => ⟨rfl, by rw [hU]; exact hP, va_K.moved hW.alike hK, hX.call hS hW hU, hJ⟩⟩ rfl rfl hl.1 rfl (lv_room (Nat.le_of_ble_eq_true rfl)) (show decode cJ1_charAt_3b067 3 = .ok (.invokestatic 9, 3) by decide +kernel) ⟨Nat.le_refl _, Nat.le_refl _⟩) hS (fun H locs hP hS _ => ?_)
  refine lv_aload_n hx hb (show decode cJ1_charAt_3b067 6 = .ok (.aload_n 0, 1) by decide +kernel) rfl (lv_at hl 0 rfl) ?_
  refine lv_iload_n hx hb (show decode cJ1_charAt_3b067 7 = .ok (.iload_n 1, 1) by decide +kernel) rfl (lv_at hl 1 rfl) ?_
  refine va_tb (v := .int (xwc j.toNatClampNeg)) hx hb hE.2.2.2 hS hin rfl (show decode cJ1_charAt_3b067 8 = .ok (.baload, 1) by decide +kernel) ?_
  refine lv_sipush (v := 255) hx hb (show decode cJ1_charAt_3b067 9 = .ok (.sipush 255, 3) by decide +kernel) (by decide) ?_
  refine lv_iand hx hb (show decode cJ1_charAt_3b067 12 = .ok (.iand, 1) by decide +kernel) ?_
  refine lv_i2c (v := xwc j.toNatClampNeg) hx hb (show decode cJ1_charAt_3b067 13 = .ok (.i2c, 1) by decide +kernel) (xwc_c _ hlt).1 ?_
  exact W.zret hx hb hr (xwc_c _ hlt).2 (fun t ht hW => ⟨rfl, by rw [ht]; exact hP, hS.F ht, hh, fun v e => by cases e; exact trivial⟩) hS.2.2 (show decode cJ1_charAt_3b067 14 = .ok (.ireturn, 1) by decide +kernel) hlk
set_option maxHeartbeats 4000000 in
set_option maxRecDepth 100000 in
theorem xj_charAt (hh : xhd h) {j : Int32} (hin : vp_in j xWords.length) : xjM g l 3 h yJ0_charAt_5068e cJ0_charAt_5068e 2 (some FieldType.char) [.ref g.2.2.2.1, .int j] (some (xi (xwc j.toNatClampNeg))) := by
  refine xj_of (by decide +kernel) (Nat.le_of_ble_eq_true rfl) ?_
  intro p e s m below meth c la F hl
  have hS : va_S (xA g) s.heap s.heap [] := va_S.rf
  have hx := F.1
  have hb := F.2.1
  have hr := F.2.2.1
  have hlk := F.2.2.2.2.2.2.1
  have hown := F.2.2.2.2.1
  have hP := F.2.2.2.2.2.2.2.1
  have hK := F.2.2.2.2.2.2.2.2.1
  have hX := F.2.2.2.2.2.2.2.2.2.1
  have hJ := F.2.2.2.2.2.2.2.2.2.2
  have hE := (hX.1.1 0 (by decide))
  have hlt : j.toNatClampNeg < xWords.length := Nat.not_le.mp fun q => hin (Or.inr q)
  refine lv_aload_n hx hb (show decode cJ0_charAt_5068e 0 = .ok (.aload_n 0, 1) by decide +kernel) rfl (lv_at hl 0 rfl) ?_
  refine xbackW (va_runV (own := "java/lang/String") (C := "java/lang/String") (b := g.2.2.2.1) (As := []) (rest := []) ⟨hx, hb, F.2.2.2.1, hown, F.2.2.2.2.2.1⟩ (xj_isLatin1 (g := g) (l := l) (h := h) hh) (cwV (ws' := xtbl) (bytes := cJ0_isLatin1_aae02) (maxL := 1) (ret := (some FieldType.boolean)) 0 F.2.2.2.2.2.1 (xgw (fun w hw => List.mem_cons_of_mem _ hw) jc_isLatin1 (List.forall_mem_cons.mpr ⟨⟨jl_String_isLatin1, rfl⟩, List.forall_mem_cons.mpr ⟨⟨ji_isLatin1, rfl⟩, List.forall_mem_cons.mpr ⟨⟨js_isLatin1, rfl⟩, List.forall_mem_cons.mpr ⟨⟨jn_String, rfl⟩, fun _ h => absurd h List.not_mem_nil⟩⟩⟩⟩)) rfl rfl rfl (by decide +kernel) ⟨Nat.le_of_ble_eq_true rfl, Nat.le_of_ble_eq_true rfl⟩) ⟨xjblind, vk_recv (i := 0) hX.1 (by decide) hS, fun U hU hW => ⟨rfl, by rw [hU]; exact hP, va_K.moved hW.alike hK, hX.call hS hW hU, hJ⟩⟩ rfl rfl hl.1 rfl (lv_room (Nat.le_of_ble_eq_true rfl)) (show decode cJ0_charAt_5068e 1 = .ok (.invokevirtual 492, 3) by decide +kernel) ⟨Nat.le_refl _, Nat.le_refl _⟩) hS (fun H locs hP hS _ => ?_)
  refine lv_if_eq (tgt := 16) hx hb (show decode cJ0_charAt_5068e 4 = .ok (.ifCond .eq 12, 3) by decide +kernel) (by decide) (fun q => absurd q (by decide)) (fun _ => ?_)
  refine lv_aload_n hx hb (show decode cJ0_charAt_5068e 7 = .ok (.aload_n 0, 1) by decide +kernel) rfl (lv_at hl 0 rfl) ?_
  refine vk_getf hx hb hE.2.2.1 hS hown (F.wd jf_value rfl) (fun _ h9 => h9) (show decode cJ0_charAt_5068e 8 = .ok (.getfield 9, 3) by decide +kernel) ?_
  refine lv_iload_n hx hb (show decode cJ0_charAt_5068e 11 = .ok (.iload_n 1, 1) by decide +kernel) rfl (lv_at hl 1 rfl) ?_
  refine xbackW (va_runS (own := "java/lang/String") (As := [.ref g.2.2.2.2, .int j]) (rest := []) ⟨hx, hb, F.2.2.2.1, hown, F.2.2.2.2.2.1⟩ (xj_lcharAt (g := g) (l := l) (h := h) hh hin) (va_cwS (ws' := xtbl) (bytes := cJ1_charAt_3b067) (maxL := 2) (ret := (some FieldType.char)) 2 F.2.2.2.2.2.1 (xgw (fun w hw => List.mem_cons_of_mem _ hw) jc_lcharAt (List.forall_mem_cons.mpr ⟨⟨jl_String_lcharAt, rfl⟩, List.forall_mem_cons.mpr ⟨⟨ji_lcharAt, rfl⟩, List.forall_mem_cons.mpr ⟨⟨jn_StringLatin1, rfl⟩, fun _ h => absurd h List.not_mem_nil⟩⟩⟩)) rfl rfl rfl (by decide +kernel) ⟨Nat.le_of_ble_eq_true rfl, Nat.le_of_ble_eq_true rfl⟩) ⟨xjblind, fun U hU hW => ⟨rfl, by rw [hU]; exact hP, va_K.moved hW.alike hK, hX.call hS hW hU, hJ⟩⟩ rfl rfl hl.1 rfl (lv_room (Nat.le_of_ble_eq_true rfl)) (show decode cJ0_charAt_5068e 12 = .ok (.invokestatic 495, 3) by decide +kernel) ⟨Nat.le_refl _, Nat.le_refl _⟩) hS (fun H locs hP hS _ => ?_)
  exact W.zret hx hb hr (xwc_c _ hlt).2 (fun t ht hW => ⟨rfl, by rw [ht]; exact hP, hS.F ht, hh, fun v e => by cases e; exact trivial⟩) hS.2.2 (show decode cJ0_charAt_5068e 15 = .ok (.ireturn, 1) by decide +kernel) hlk
variable {d y pc : Nat} {ls : List (Nat × xV)} {st : List xV} {h' : xH} {r : Option xV}
/-- WORDS.length() in a method of Tape -/
theorem xs_wlen (hd : decode (xcode y) pc = .ok (.ldc 69, 2)) (hd2 : decode (xcode y) (pc + 2) = .ok (.invokevirtual 71, 3)) (ho : xkey y = 7) (hw : (st.map xcat).sum ≤ 8) (hdd : 4 ≤ d) (k : xEv g l d y (pc + 2 + 3) ls (xi (Int32.ofNat xWords.length) :: st) h r h') : xEv g l d y pc ls st h r h' := by
  intro p e s m args below meth c H locs la F v1 v2 v3 hP hS hl
  have hown : s.vm.findClass "BeanTrug$Tape" = some m.cls := by have := F.own; rw [ho] at this; exact this
  refine va_ldcS F.1 F.2.1 hown F.S.2.1 hd ?_
  refine xbackW (va_runV (own := "BeanTrug$Tape") (C := "java/lang/String") (b := g.2.2.2.1) (As := []) (rest := st.map (xcv g)) ⟨F.1, F.2.1, F.2.2.2.1, hown, F.2.2.2.2.2.1⟩ (xj_length (g := g) (l := l) (h := h) v3) (cwV (ws' := xtbl) (bytes := cJ0_length_8abf5) (maxL := 1) (ret := (some FieldType.int)) 0 F.2.2.2.2.2.1 (xgw (fun w hw => List.mem_cons_of_mem _ hw) jc_length (List.forall_mem_cons.mpr ⟨⟨jl_BeanTrug_Tape_length, rfl⟩, List.forall_mem_cons.mpr ⟨⟨ji_length, rfl⟩, List.forall_mem_cons.mpr ⟨⟨js_length, rfl⟩, List.forall_mem_cons.mpr ⟨⟨jn_String, rfl⟩, fun _ h => absurd h List.not_mem_nil⟩⟩⟩⟩)) rfl rfl rfl (by decide +kernel) ⟨show 1 + 1 ≤ d by omega, show 8 + (1 + 11) + 60 * 1 ≤ 60 * d by omega⟩) ⟨xjblind, vk_recv (i := 0) F.S.1 (by decide) hS, fun U hU hW => ⟨rfl, by rw [hU]; exact hP, va_K.moved hW.alike F.K, F.S.call hS hW hU, F.J⟩⟩ rfl rfl hl.1 rfl (lv_room (by rw [xsum]; exact hw)) hd2 ⟨Nat.le_refl _, Nat.le_refl _⟩) hS (fun H1 locs1 hP1 hS1 _ => ?_)
  exact k p e s m args below meth c H1 locs1 la F v1 (xvl.c trivial v2) v3 hP1 hS1 hl
/-- WORDS.charAt(local) in a method of Tape -/
theorem xs_wchr {i : Nat} {j : Int32} (hd : decode (xcode y) pc = .ok (.ldc 69, 2)) (hd1 : decode (xcode y) (pc + 2) = .ok (.iload i, 2)) (hd2 : decode (xcode y) (pc + 2 + 2) = .ok (.invokevirtual 76, 3)) (ho : xkey y = 7) (hg : xget ls i = some (xi j)) (hin : vp_in j xWords.length) (hw : (st.map xcat).sum ≤ 8) (hdd : 4 ≤ d) (k : xEv g l d y (pc + 2 + 2 + 3) ls (xi (xwc j.toNatClampNeg) :: st) h r h') : xEv g l d y pc ls st h r h' := by
  intro p e s m args below meth c H locs la F v1 v2 v3 hP hS hl
  have hown : s.vm.findClass "BeanTrug$Tape" = some m.cls := by have := F.own; rw [ho] at this; exact this
  refine va_ldcS F.1 F.2.1 hown F.S.2.1 hd ?_
  refine lv_iload F.1 F.2.1 hd1 (xget_at hl hg) ?_
  refine xbackW (va_runV (own := "BeanTrug$Tape") (C := "java/lang/String") (b := g.2.2.2.1) (As := [.int j]) (rest := st.map (xcv g)) ⟨F.1, F.2.1, F.2.2.2.1, hown, F.2.2.2.2.2.1⟩ (xj_charAt (g := g) (l := l) (h := h) v3 hin) (cwV (ws' := xtbl) (bytes := cJ0_charAt_5068e) (maxL := 2) (ret := (some FieldType.char)) 1 F.2.2.2.2.2.1 (xgw (fun w hw => List.mem_cons_of_mem _ hw) jc_charAt (List.forall_mem_cons.mpr ⟨⟨jl_BeanTrug_Tape_charAt, rfl⟩, List.forall_mem_cons.mpr ⟨⟨ji_charAt, rfl⟩, List.forall_mem_cons.mpr ⟨⟨js_charAt, rfl⟩, List.forall_mem_cons.mpr ⟨⟨jn_String, rfl⟩, fun _ h => absurd h List.not_mem_nil⟩⟩⟩⟩)) rfl rfl rfl (by decide +kernel) ⟨show 3 + 1 ≤ d by omega, show 8 + (2 + 11) + 60 * 3 ≤ 60 * d by omega⟩) ⟨xjblind, vk_recv (i := 0) F.S.1 (by decide) hS, fun U hU hW => ⟨rfl, by rw [hU]; exact hP, va_K.moved hW.alike F.K, F.S.call hS hW hU, F.J⟩⟩ rfl rfl hl.1 rfl (lv_room (by rw [xsum]; exact hw)) hd2 ⟨Nat.le_refl _, Nat.le_refl _⟩) hS (fun H1 locs1 hP1 hS1 _ => ?_)
  exact k p e s m args below meth c H1 locs1 la F v1 (xvl.c trivial v2) v3 hP1 hS1 hl
end XSTR
