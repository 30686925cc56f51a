/-! ROWS OF THE JUDGEMENT, an instruction each (laid by wip/whole/gen_rows.py) -/
section XROWS
variable {g : xG} {l : Launch} {d y pc : Nat} {ls : List (Nat × xV)} {st : List xV} {h h' : xH} {r : Option xV}
theorem xs_iadd {a b : Int32} (hd : decode (xcode y) pc = .ok (.iadd, 1)) (k : xEv g l d y (pc + 1) ls (xi (a + b) :: st) h r h') : xEv g l d y pc ls (xi b :: xi a :: st) h r h' := by
  intro p e s m args below meth c H locs la F v1 v2 v3 hP hS hl
  exact lv_iadd F.1 F.2.1 hd (k p e s m args below meth c H locs la F v1 (xvl.c trivial v2.t.t) v3 hP hS hl)
theorem xs_isub {a b : Int32} (hd : decode (xcode y) pc = .ok (.isub, 1)) (k : xEv g l d y (pc + 1) ls (xi (a - b) :: st) h r h') : xEv g l d y pc ls (xi b :: xi a :: st) h r h' := by
  intro p e s m args below meth c H locs la F v1 v2 v3 hP hS hl
  exact lv_isub F.1 F.2.1 hd (k p e s m args below meth c H locs la F v1 (xvl.c trivial v2.t.t) v3 hP hS hl)
theorem xs_imul {a b : Int32} (hd : decode (xcode y) pc = .ok (.imul, 1)) (k : xEv g l d y (pc + 1) ls (xi (a * b) :: st) h r h') : xEv g l d y pc ls (xi b :: xi a :: st) h r h' := by
  intro p e s m args below meth c H locs la F v1 v2 v3 hP hS hl
  exact lv_imul F.1 F.2.1 hd (k p e s m args below meth c H locs la F v1 (xvl.c trivial v2.t.t) v3 hP hS hl)
theorem xs_iand {a b : Int32} (hd : decode (xcode y) pc = .ok (.iand, 1)) (k : xEv g l d y (pc + 1) ls (xi (a &&& b) :: st) h r h') : xEv g l d y pc ls (xi b :: xi a :: st) h r h' := by
  intro p e s m args below meth c H locs la F v1 v2 v3 hP hS hl
  exact lv_iand F.1 F.2.1 hd (k p e s m args below meth c H locs la F v1 (xvl.c trivial v2.t.t) v3 hP hS hl)
theorem xs_ior {a b : Int32} (hd : decode (xcode y) pc = .ok (.ior, 1)) (k : xEv g l d y (pc + 1) ls (xi (a ||| b) :: st) h r h') : xEv g l d y pc ls (xi b :: xi a :: st) h r h' := by
  intro p e s m args below meth c H locs la F v1 v2 v3 hP hS hl
  exact lv_ior F.1 F.2.1 hd (k p e s m args below meth c H locs la F v1 (xvl.c trivial v2.t.t) v3 hP hS hl)
theorem xs_ixor {a b : Int32} (hd : decode (xcode y) pc = .ok (.ixor, 1)) (k : xEv g l d y (pc + 1) ls (xi (a ^^^ b) :: st) h r h') : xEv g l d y pc ls (xi b :: xi a :: st) h r h' := by
  intro p e s m args below meth c H locs la F v1 v2 v3 hP hS hl
  exact lv_ixor F.1 F.2.1 hd (k p e s m args below meth c H locs la F v1 (xvl.c trivial v2.t.t) v3 hP hS hl)
theorem xs_ishl {a b : Int32} (hd : decode (xcode y) pc = .ok (.ishl, 1)) (k : xEv g l d y (pc + 1) ls (xi (a <<< (b &&& 31)) :: st) h r h') : xEv g l d y pc ls (xi b :: xi a :: st) h r h' := by
  intro p e s m args below meth c H locs la F v1 v2 v3 hP hS hl
  exact lv_ishl F.1 F.2.1 hd (k p e s m args below meth c H locs la F v1 (xvl.c trivial v2.t.t) v3 hP hS hl)
theorem xs_ishr {a b : Int32} (hd : decode (xcode y) pc = .ok (.ishr, 1)) (k : xEv g l d y (pc + 1) ls (xi (a >>> (b &&& 31)) :: st) h r h') : xEv g l d y pc ls (xi b :: xi a :: st) h r h' := by
  intro p e s m args below meth c H locs la F v1 v2 v3 hP hS hl
  exact lv_ishr F.1 F.2.1 hd (k p e s m args below meth c H locs la F v1 (xvl.c trivial v2.t.t) v3 hP hS hl)
theorem xs_iushr {a b : Int32} (hd : decode (xcode y) pc = .ok (.iushr, 1)) (k : xEv g l d y (pc + 1) ls (xi (a.toUInt32 >>> (b.toUInt32 &&& Int32.toUInt32 31)).toInt32 :: st) h r h') : xEv g l d y pc ls (xi b :: xi a :: st) h r h' := by
  intro p e s m args below meth c H locs la F v1 v2 v3 hP hS hl
  exact lv_iushr F.1 F.2.1 hd rfl (k p e s m args below meth c H locs la F v1 (xvl.c trivial v2.t.t) v3 hP hS hl)
theorem xs_idiv {a b : Int32} (hd : decode (xcode y) pc = .ok (.idiv, 1)) (hb : ¬ b = 0) (k : xEv g l d y (pc + 1) ls (xi (a / b) :: st) h r h') : xEv g l d y pc ls (xi b :: xi a :: st) h r h' := by
  intro p e s m args below meth c H locs la F v1 v2 v3 hP hS hl
  exact lv_idiv F.1 F.2.1 hd hb (k p e s m args below meth c H locs la F v1 (xvl.c trivial v2.t.t) v3 hP hS hl)
theorem xs_irem {a b : Int32} (hd : decode (xcode y) pc = .ok (.irem, 1)) (hb : ¬ b = 0) (k : xEv g l d y (pc + 1) ls (xi (a - a / b * b) :: st) h r h') : xEv g l d y pc ls (xi b :: xi a :: st) h r h' := by
  intro p e s m args below meth c H locs la F v1 v2 v3 hP hS hl
  exact lv_irem F.1 F.2.1 hd hb (k p e s m args below meth c H locs la F v1 (xvl.c trivial v2.t.t) v3 hP hS hl)
theorem xs_ladd {a b : Int64} (hd : decode (xcode y) pc = .ok (.ladd, 1)) (k : xEv g l d y (pc + 1) ls (xl (a + b) :: st) h r h') : xEv g l d y pc ls (xl b :: xl a :: st) h r h' := by
  intro p e s m args below meth c H locs la F v1 v2 v3 hP hS hl
  exact lv_ladd F.1 F.2.1 hd (k p e s m args below meth c H locs la F v1 (xvl.c trivial v2.t.t) v3 hP hS hl)
theorem xs_lsub {a b : Int64} (hd : decode (xcode y) pc = .ok (.lsub, 1)) (k : xEv g l d y (pc + 1) ls (xl (a - b) :: st) h r h') : xEv g l d y pc ls (xl b :: xl a :: st) h r h' := by
  intro p e s m args below meth c H locs la F v1 v2 v3 hP hS hl
  exact lv_lsub F.1 F.2.1 hd (k p e s m args below meth c H locs la F v1 (xvl.c trivial v2.t.t) v3 hP hS hl)
theorem xs_lmul {a b : Int64} (hd : decode (xcode y) pc = .ok (.lmul, 1)) (k : xEv g l d y (pc + 1) ls (xl (a * b) :: st) h r h') : xEv g l d y pc ls (xl b :: xl a :: st) h r h' := by
  intro p e s m args below meth c H locs la F v1 v2 v3 hP hS hl
  exact lv_lmul F.1 F.2.1 hd (k p e s m args below meth c H locs la F v1 (xvl.c trivial v2.t.t) v3 hP hS hl)
theorem xs_land {a b : Int64} (hd : decode (xcode y) pc = .ok (.land, 1)) (k : xEv g l d y (pc + 1) ls (xl (a &&& b) :: st) h r h') : xEv g l d y pc ls (xl b :: xl a :: st) h r h' := by
  intro p e s m args below meth c H locs la F v1 v2 v3 hP hS hl
  exact lv_land F.1 F.2.1 hd (k p e s m args below meth c H locs la F v1 (xvl.c trivial v2.t.t) v3 hP hS hl)
theorem xs_lor {a b : Int64} (hd : decode (xcode y) pc = .ok (.lor, 1)) (k : xEv g l d y (pc + 1) ls (xl (a ||| b) :: st) h r h') : xEv g l d y pc ls (xl b :: xl a :: st) h r h' := by
  intro p e s m args below meth c H locs la F v1 v2 v3 hP hS hl
  exact lv_lor F.1 F.2.1 hd (k p e s m args below meth c H locs la F v1 (xvl.c trivial v2.t.t) v3 hP hS hl)
theorem xs_lxor {a b : Int64} (hd : decode (xcode y) pc = .ok (.lxor, 1)) (k : xEv g l d y (pc + 1) ls (xl (a ^^^ b) :: st) h r h') : xEv g l d y pc ls (xl b :: xl a :: st) h r h' := by
  intro p e s m args below meth c H locs la F v1 v2 v3 hP hS hl
  exact lv_lxor F.1 F.2.1 hd (k p e s m args below meth c H locs la F v1 (xvl.c trivial v2.t.t) v3 hP hS hl)
theorem xs_ldiv {a b : Int64} (hd : decode (xcode y) pc = .ok (.ldiv, 1)) (hb : ¬ b = 0) (k : xEv g l d y (pc + 1) ls (xl (a / b) :: st) h r h') : xEv g l d y pc ls (xl b :: xl a :: st) h r h' := by
  intro p e s m args below meth c H locs la F v1 v2 v3 hP hS hl
  exact lv_ldiv F.1 F.2.1 hd hb (k p e s m args below meth c H locs la F v1 (xvl.c trivial v2.t.t) v3 hP hS hl)
theorem xs_lrem {a b : Int64} (hd : decode (xcode y) pc = .ok (.lrem, 1)) (hb : ¬ b = 0) (k : xEv g l d y (pc + 1) ls (xl (a - a / b * b) :: st) h r h') : xEv g l d y pc ls (xl b :: xl a :: st) h r h' := by
  intro p e s m args below meth c H locs la F v1 v2 v3 hP hS hl
  exact lv_lrem F.1 F.2.1 hd hb (k p e s m args below meth c H locs la F v1 (xvl.c trivial v2.t.t) v3 hP hS hl)
theorem xs_lshl {a : Int64} {b : Int32} (hd : decode (xcode y) pc = .ok (.lshl, 1)) (k : xEv g l d y (pc + 1) ls (xl (a <<< (b.toInt64 &&& 63)) :: st) h r h') : xEv g l d y pc ls (xi b :: xl a :: st) h r h' := by
  intro p e s m args below meth c H locs la F v1 v2 v3 hP hS hl
  exact lv_lshl F.1 F.2.1 hd rfl (k p e s m args below meth c H locs la F v1 (xvl.c trivial v2.t.t) v3 hP hS hl)
theorem xs_lcmp {a b : Int64} (hd : decode (xcode y) pc = .ok (.lcmp, 1)) (k : xEv g l d y (pc + 1) ls (xi (lg_cmp a b) :: st) h r h') : xEv g l d y pc ls (xl b :: xl a :: st) h r h' := by
  intro p e s m args below meth c H locs la F v1 v2 v3 hP hS hl
  exact W.lcmp F.1 F.2.1 hd (k p e s m args below meth c H locs la F v1 (xvl.c trivial v2.t.t) v3 hP hS hl)
theorem xs_ineg {a : Int32} (hd : decode (xcode y) pc = .ok (.ineg, 1)) (k : xEv g l d y (pc + 1) ls (xi (-a) :: st) h r h') : xEv g l d y pc ls (xi a :: st) h r h' := by
  intro p e s m args below meth c H locs la F v1 v2 v3 hP hS hl
  exact lv_ineg F.1 F.2.1 hd (k p e s m args below meth c H locs la F v1 (xvl.c trivial v2.t) v3 hP hS hl)
theorem xs_i2l {a : Int32} (hd : decode (xcode y) pc = .ok (.i2l, 1)) (k : xEv g l d y (pc + 1) ls (xl a.toInt64 :: st) h r h') : xEv g l d y pc ls (xi a :: st) h r h' := by
  intro p e s m args below meth c H locs la F v1 v2 v3 hP hS hl
  exact lv_i2l F.1 F.2.1 hd rfl (k p e s m args below meth c H locs la F v1 (xvl.c trivial v2.t) v3 hP hS hl)
theorem xs_l2i {a : Int64} (hd : decode (xcode y) pc = .ok (.l2i, 1)) (k : xEv g l d y (pc + 1) ls (xi a.toInt32 :: st) h r h') : xEv g l d y pc ls (xl a :: st) h r h' := by
  intro p e s m args below meth c H locs la F v1 v2 v3 hP hS hl
  exact lv_l2i F.1 F.2.1 hd rfl (k p e s m args below meth c H locs la F v1 (xvl.c trivial v2.t) v3 hP hS hl)
theorem xs_i2b {a : Int32} (hd : decode (xcode y) pc = .ok (.i2b, 1)) (k : xEv g l d y (pc + 1) ls (xi a.toInt8.toInt32 :: st) h r h') : xEv g l d y pc ls (xi a :: st) h r h' := by
  intro p e s m args below meth c H locs la F v1 v2 v3 hP hS hl
  exact lv_i2b F.1 F.2.1 hd rfl (k p e s m args below meth c H locs la F v1 (xvl.c trivial v2.t) v3 hP hS hl)
theorem xs_iconst {n : Int} {v : Int32} (hd : decode (xcode y) pc = .ok (.iconst n, 1)) (hv : Int32.ofInt n = v) (k : xEv g l d y (pc + 1) ls (xi v :: st) h r h') : xEv g l d y pc ls (st) h r h' := by
  intro p e s m args below meth c H locs la F v1 v2 v3 hP hS hl
  exact lv_iconst F.1 F.2.1 hd hv (k p e s m args below meth c H locs la F v1 (xvl.c trivial v2) v3 hP hS hl)
theorem xs_bipush {n : Int} {v : Int32} (hd : decode (xcode y) pc = .ok (.bipush n, 2)) (hv : (Int8.ofInt n).toInt32 = v) (k : xEv g l d y (pc + 2) ls (xi v :: st) h r h') : xEv g l d y pc ls (st) h r h' := by
  intro p e s m args below meth c H locs la F v1 v2 v3 hP hS hl
  exact lv_bipush F.1 F.2.1 hd hv (k p e s m args below meth c H locs la F v1 (xvl.c trivial v2) v3 hP hS hl)
theorem xs_sipush {n : Int} {v : Int32} (hd : decode (xcode y) pc = .ok (.sipush n, 3)) (hv : (Int16.ofInt n).toInt32 = v) (k : xEv g l d y (pc + 3) ls (xi v :: st) h r h') : xEv g l d y pc ls (st) h r h' := by
  intro p e s m args below meth c H locs la F v1 v2 v3 hP hS hl
  exact lv_sipush F.1 F.2.1 hd hv (k p e s m args below meth c H locs la F v1 (xvl.c trivial v2) v3 hP hS hl)
theorem xs_lconst {n : Fin 2} {v : Int64} (hd : decode (xcode y) pc = .ok (.lconst n, 1)) (hv : Int64.ofNat (n : Nat) = v) (k : xEv g l d y (pc + 1) ls (xl v :: st) h r h') : xEv g l d y pc ls (st) h r h' := by
  intro p e s m args below meth c H locs la F v1 v2 v3 hP hS hl
  exact lv_lconst F.1 F.2.1 hd hv (k p e s m args below meth c H locs la F v1 (xvl.c trivial v2) v3 hP hS hl)
theorem xs_null (cN : Nat) (hd : decode (xcode y) pc = .ok (.aconst_null, 1)) (k : xEv g l d y (pc + 1) ls (xr cN none :: st) h r h') : xEv g l d y pc ls (st) h r h' := by
  intro p e s m args below meth c H locs la F v1 v2 v3 hP hS hl
  exact lv_null F.1 F.2.1 hd (k p e s m args below meth c H locs la F v1 (xvl.c trivial v2) v3 hP hS hl)
theorem xs_ldc {idx : Nat} {v : Int32} (hd : decode (xcode y) pc = .ok (.ldc idx, 2)) (hc : Cond.constant (xname y).cls idx v ∈ lw_tbl) (k : xEv g l d y (pc + 2) ls (xi v :: st) h r h') : xEv g l d y pc ls st h r h' := by
  intro p e s m args below meth c H locs la F v1 v2 v3 hP hS hl
  exact lv_ldc F.1 F.2.1 F.2.2.2.2.1 (F.2.2.2.2.2.1 _ (List.mem_cons_of_mem _ (xin hc rfl))) hd (k p e s m args below meth c H locs la F v1 (xvl.c trivial v2) v3 hP hS hl)
theorem xs_ldcw {idx : Nat} {v : Int32} (hd : decode (xcode y) pc = .ok (.ldc_w idx, 3)) (hc : Cond.constant (xname y).cls idx v ∈ lw_tbl) (k : xEv g l d y (pc + 3) ls (xi v :: st) h r h') : xEv g l d y pc ls st h r h' := by
  intro p e s m args below meth c H locs la F v1 v2 v3 hP hS hl
  exact lv_ldcw F.1 F.2.1 F.2.2.2.2.1 (F.2.2.2.2.2.1 _ (List.mem_cons_of_mem _ (xin hc rfl))) hd (k p e s m args below meth c H locs la F v1 (xvl.c trivial v2) v3 hP hS hl)
theorem xs_ldc2 {idx : Nat} {v : Int64} (hd : decode (xcode y) pc = .ok (.ldc2_w idx, 3)) (hc : Cond.constantLong (xname y).cls idx v ∈ lw_tbl) (k : xEv g l d y (pc + 3) ls (xl v :: st) h r h') : xEv g l d y pc ls st h r h' := by
  intro p e s m args below meth c H locs la F v1 v2 v3 hP hS hl
  exact lv_ldc2 F.1 F.2.1 F.2.2.2.2.1 (F.2.2.2.2.2.1 _ (List.mem_cons_of_mem _ (xin hc rfl))) hd (k p e s m args below meth c H locs la F v1 (xvl.c trivial v2) v3 hP hS hl)
def xget (ls : List (Nat × xV)) (i : Nat) : Option xV := (ls.find? (fun q => q.1 == i)).map (fun q => q.2)
theorem xget_mem {ls : List (Nat × xV)} {i : Nat} {v : xV} (hg : xget ls i = some v) : (i, v) ∈ ls := by
  unfold xget at hg
  obtain ⟨q, h1, h2⟩ := Option.map_eq_some_iff.mp hg
  have h3 := List.find?_some h1
  have h4 : q.1 = i := by simpa using h3
  have h5 := List.mem_of_find?_eq_some h1
  rw [← h4, ← h2]
  exact h5
theorem xget_at {la : Array Slot} {n i : Nat} {v : xV} (hl : lv_has la n (ls.map (fun q => (q.1, xcv g q.2)))) (hg : xget ls i = some v) : la[i]? = some (.val (xcv g v)) :=
  hl.2.2 (i, xcv g v) (List.mem_map.mpr ⟨(i, v), xget_mem hg, rfl⟩)
theorem xget_vd {i : Nat} {v : xV} (hv : xvq ls) (hg : xget ls i = some v) : xvd v := hv (i, v) (xget_mem hg)
theorem xs_iload_n {j : Fin 4} {a : Int32} (hd : decode (xcode y) pc = .ok (.iload_n j, 1)) (hg : xget ls (j : Nat) = some (xi a)) (k : xEv g l d y (pc + 1) ls (xi a :: st) h r h') : xEv g l d y pc ls st h r h' := by
  intro p e s m args below meth c H locs la F v1 v2 v3 hP hS hl
  exact lv_iload_n F.1 F.2.1 hd rfl (xget_at hl hg) (k p e s m args below meth c H locs la F v1 (xvl.c trivial v2) v3 hP hS hl)
theorem xs_iload {j : Nat} {a : Int32} (hd : decode (xcode y) pc = .ok (.iload j, 2)) (hg : xget ls j = some (xi a)) (k : xEv g l d y (pc + 2) ls (xi a :: st) h r h') : xEv g l d y pc ls st h r h' := by
  intro p e s m args below meth c H locs la F v1 v2 v3 hP hS hl
  exact lv_iload F.1 F.2.1 hd (xget_at hl hg) (k p e s m args below meth c H locs la F v1 (xvl.c trivial v2) v3 hP hS hl)
theorem xs_lload_n {j : Fin 4} {a : Int64} (hd : decode (xcode y) pc = .ok (.lload_n j, 1)) (hg : xget ls (j : Nat) = some (xl a)) (k : xEv g l d y (pc + 1) ls (xl a :: st) h r h') : xEv g l d y pc ls st h r h' := by
  intro p e s m args below meth c H locs la F v1 v2 v3 hP hS hl
  exact lv_lload_n F.1 F.2.1 hd rfl (xget_at hl hg) (k p e s m args below meth c H locs la F v1 (xvl.c trivial v2) v3 hP hS hl)
theorem xs_lload {j : Nat} {a : Int64} (hd : decode (xcode y) pc = .ok (.lload j, 2)) (hg : xget ls j = some (xl a)) (k : xEv g l d y (pc + 2) ls (xl a :: st) h r h') : xEv g l d y pc ls st h r h' := by
  intro p e s m args below meth c H locs la F v1 v2 v3 hP hS hl
  exact lv_lload F.1 F.2.1 hd (xget_at hl hg) (k p e s m args below meth c H locs la F v1 (xvl.c trivial v2) v3 hP hS hl)
theorem xs_aload_n {j : Fin 4} {cN : Nat} {o : Option Nat} (hd : decode (xcode y) pc = .ok (.aload_n j, 1)) (hg : xget ls (j : Nat) = some (xr cN o)) (k : xEv g l d y (pc + 1) ls (xr cN o :: st) h r h') : xEv g l d y pc ls st h r h' := by
  intro p e s m args below meth c H locs la F v1 v2 v3 hP hS hl
  have hv := xget_vd v1 hg
  have hat := xget_at hl hg
  cases o with
  | none => exact lv_aload_nN F.1 F.2.1 hd rfl hat (k p e s m args below meth c H locs la F v1 (xvl.c hv v2) v3 hP hS hl)
  | some i => exact lv_aload_n F.1 F.2.1 hd rfl hat (k p e s m args below meth c H locs la F v1 (xvl.c hv v2) v3 hP hS hl)
theorem xs_aload {j : Nat} {cN : Nat} {o : Option Nat} (hd : decode (xcode y) pc = .ok (.aload j, 2)) (hg : xget ls j = some (xr cN o)) (k : xEv g l d y (pc + 2) ls (xr cN o :: st) h r h') : xEv g l d y pc ls st h r h' := by
  intro p e s m args below meth c H locs la F v1 v2 v3 hP hS hl
  have hv := xget_vd v1 hg
  have hat := xget_at hl hg
  cases o with
  | none => exact lv_aloadN F.1 F.2.1 hd hat (k p e s m args below meth c H locs la F v1 (xvl.c hv v2) v3 hP hS hl)
  | some i => exact lv_aload F.1 F.2.1 hd hat (k p e s m args below meth c H locs la F v1 (xvl.c hv v2) v3 hP hS hl)
def xins (p : Nat × xV) : List (Nat × xV) → List (Nat × xV)
  | [] => [p]
  | q :: l => if p.1 ≤ q.1 then p :: q :: l else q :: xins p l
theorem xins_mem {p q : Nat × xV} : ∀ {l : List (Nat × xV)}, q ∈ xins p l → q = p ∨ q ∈ l
  | [], hq => Or.inl (List.mem_singleton.mp hq)
  | a :: l, hq => by
    unfold xins at hq
    split at hq
    · exact List.mem_cons.mp hq
    · rcases List.mem_cons.mp hq with h1 | h1
      · exact Or.inr (h1 ▸ List.mem_cons_self)
      · rcases xins_mem h1 with h2 | h2
        · exact Or.inl h2
        · exact Or.inr (List.mem_cons_of_mem _ h2)
/-- a local of one word, of two words, stored -/
def xput (ls : List (Nat × xV)) (i : Nat) (v : xV) : List (Nat × xV) := xins (i, v) (ls.filter (fun q => !(q.1 == i) && !(q.1 + 1 == i && xcat q.2 == 2)))
def xput2 (ls : List (Nat × xV)) (i : Nat) (v : xV) : List (Nat × xV) := xins (i, v) (ls.filter (fun q => !(q.1 == i) && (!(q.1 == i + 1) && !(q.1 + 1 == i && xcat q.2 == 2))))
theorem xput_vq {i : Nat} {v : xV} (hv : xvq ls) (h1 : xvd v) : xvq (xput ls i v) := fun q hq => by
  rcases xins_mem hq with e | e
  · rw [e]; exact h1
  · exact hv q (List.mem_filter.mp e).1
theorem xput2_vq {i : Nat} {v : xV} (hv : xvq ls) (h1 : xvd v) : xvq (xput2 ls i v) := fun q hq => by
  rcases xins_mem hq with e | e
  · rw [e]; exact h1
  · exact hv q (List.mem_filter.mp e).1
theorem xput_has {la : Array Slot} {n i : Nat} {v : xV} (hl : lv_has la n ((i, xcv g v) :: (ls.map (fun q => (q.1, xcv g q.2))).filter (fun q => !(q.1 == i) && !(q.1 + 1 == i && q.2.category == 2)))) : lv_has la n ((xput ls i v).map (fun q => (q.1, xcv g q.2))) := by
  refine ⟨hl.1, hl.2.1, fun q hq => hl.2.2 q ?_⟩
  obtain ⟨z, hz, e⟩ := List.mem_map.mp hq
  rcases xins_mem hz with e1 | e1
  · rw [← e, e1]; exact List.mem_cons_self
  · obtain ⟨m1, m2⟩ := List.mem_filter.mp e1
    refine List.mem_cons_of_mem _ (List.mem_filter.mpr ⟨List.mem_map.mpr ⟨z, m1, e⟩, ?_⟩)
    rw [← e]
    simpa [xcv_cat] using m2
theorem xput2_has {la : Array Slot} {n i : Nat} {v : xV} (hl : lv_has la n ((i, xcv g v) :: (ls.map (fun q => (q.1, xcv g q.2))).filter (fun q => !(q.1 == i) && (!(q.1 == i + 1) && !(q.1 + 1 == i && q.2.category == 2))))) : lv_has la n ((xput2 ls i v).map (fun q => (q.1, xcv g q.2))) := by
  refine ⟨hl.1, hl.2.1, fun q hq => hl.2.2 q ?_⟩
  obtain ⟨z, hz, e⟩ := List.mem_map.mp hq
  rcases xins_mem hz with e1 | e1
  · rw [← e, e1]; exact List.mem_cons_self
  · obtain ⟨m1, m2⟩ := List.mem_filter.mp e1
    refine List.mem_cons_of_mem _ (List.mem_filter.mpr ⟨List.mem_map.mpr ⟨z, m1, e⟩, ?_⟩)
    rw [← e]
    simpa [xcv_cat] using m2
theorem xs_istore_n {j : Fin 4} {a : Int32} (hd : decode (xcode y) pc = .ok (.istore_n j, 1)) (hn : (j : Nat) < xmaxL y) (k : xEv g l d y (pc + 1) (xput ls (j : Nat) (xi a)) st h r h') : xEv g l d y pc ls (xi a :: st) h r h' := by
  intro p e s m args below meth c H locs la F v1 v2 v3 hP hS hl
  exact lv_istore_n F.1 F.2.1 hd rfl hl hn rfl (fun la hl => k p e s m args below meth c H locs la F (xput_vq v1 trivial) v2.t v3 hP hS (xput_has (v := xi a) hl))
theorem xs_lstore_n {j : Fin 4} {a : Int64} (hd : decode (xcode y) pc = .ok (.lstore_n j, 1)) (hn : (j : Nat) + 1 < xmaxL y) (k : xEv g l d y (pc + 1) (xput2 ls (j : Nat) (xl a)) st h r h') : xEv g l d y pc ls (xl a :: st) h r h' := by
  intro p e s m args below meth c H locs la F v1 v2 v3 hP hS hl
  exact lv_lstore_n F.1 F.2.1 hd rfl hl hn rfl (fun la hl => k p e s m args below meth c H locs la F (xput2_vq v1 trivial) v2.t v3 hP hS (xput2_has (v := xl a) hl))
theorem xs_astore_n {j : Fin 4} {cN : Nat} {o : Option Nat} (hd : decode (xcode y) pc = .ok (.astore_n j, 1)) (hn : (j : Nat) < xmaxL y) (k : xEv g l d y (pc + 1) (xput ls (j : Nat) (xr cN o)) st h r h') : xEv g l d y pc ls (xr cN o :: st) h r h' := by
  intro p e s m args below meth c H locs la F v1 v2 v3 hP hS hl
  cases o with
  | none => exact lv_astore_nN F.1 F.2.1 hd rfl hl hn rfl (fun la hl => k p e s m args below meth c H locs la F (xput_vq v1 v2.h) v2.t v3 hP hS (xput_has (v := xr cN none) hl))
  | some i => exact lv_astore_n F.1 F.2.1 hd rfl hl hn rfl (fun la hl => k p e s m args below meth c H locs la F (xput_vq v1 v2.h) v2.t v3 hP hS (xput_has (v := xr cN (some i)) hl))
theorem xs_istore {j : Nat} {a : Int32} (hd : decode (xcode y) pc = .ok (.istore j, 2)) (hn : j < xmaxL y) (k : xEv g l d y (pc + 2) (xput ls j (xi a)) st h r h') : xEv g l d y pc ls (xi a :: st) h r h' := by
  intro p e s m args below meth c H locs la F v1 v2 v3 hP hS hl
  exact lv_istore F.1 F.2.1 hd hl hn rfl (fun la hl => k p e s m args below meth c H locs la F (xput_vq v1 trivial) v2.t v3 hP hS (xput_has (v := xi a) hl))
theorem xs_lstore {j : Nat} {a : Int64} (hd : decode (xcode y) pc = .ok (.lstore j, 2)) (hn : j + 1 < xmaxL y) (k : xEv g l d y (pc + 2) (xput2 ls j (xl a)) st h r h') : xEv g l d y pc ls (xl a :: st) h r h' := by
  intro p e s m args below meth c H locs la F v1 v2 v3 hP hS hl
  exact lv_lstore F.1 F.2.1 hd hl hn rfl (fun la hl => k p e s m args below meth c H locs la F (xput2_vq v1 trivial) v2.t v3 hP hS (xput2_has (v := xl a) hl))
theorem xs_astore {j : Nat} {cN : Nat} {o : Option Nat} (hd : decode (xcode y) pc = .ok (.astore j, 2)) (hn : j < xmaxL y) (k : xEv g l d y (pc + 2) (xput ls j (xr cN o)) st h r h') : xEv g l d y pc ls (xr cN o :: st) h r h' := by
  intro p e s m args below meth c H locs la F v1 v2 v3 hP hS hl
  cases o with
  | none => exact lv_astoreN F.1 F.2.1 hd hl hn rfl (fun la hl => k p e s m args below meth c H locs la F (xput_vq v1 v2.h) v2.t v3 hP hS (xput_has (v := xr cN none) hl))
  | some i => exact lv_astore F.1 F.2.1 hd hl hn rfl (fun la hl => k p e s m args below meth c H locs la F (xput_vq v1 v2.h) v2.t v3 hP hS (xput_has (v := xr cN (some i)) hl))
theorem xs_iinc {j : Nat} {n : Int} {a v : Int32} (hd : decode (xcode y) pc = .ok (.iinc j n, 3)) (hg : xget ls j = some (xi a)) (hv : a + Int32.ofInt n = v) (hn : j < xmaxL y) (k : xEv g l d y (pc + 3) (xput ls j (xi v)) st h r h') : xEv g l d y pc ls st h r h' := by
  intro p e s m args below meth c H locs la F v1 v2 v3 hP hS hl
  obtain ⟨q, hq⟩ := List.getElem?_of_mem (List.mem_map.mpr ⟨(j, xi a), xget_mem hg, rfl⟩ : (j, xcv g (xi a)) ∈ ls.map (fun q => (q.1, xcv g q.2)))
  exact lv_iinc F.1 F.2.1 hd hl hq hv hn rfl (fun la hl => k p e s m args below meth c H locs la F (xput_vq v1 trivial) v2 v3 hP hS (xput_has (v := xi v) hl))
theorem xs_dup {v : xV} (hd : decode (xcode y) pc = .ok (.dup, 1)) (hc : xcat v = 1) (k : xEv g l d y (pc + 1) ls (v :: v :: st) h r h') : xEv g l d y pc ls (v :: st) h r h' := by
  intro p e s m args below meth c H locs la F v1 v2 v3 hP hS hl
  exact lv_dup F.1 F.2.1 hd (by rw [xcv_cat]; exact hc) (k p e s m args below meth c H locs la F v1 (xvl.c v2.h v2) v3 hP hS hl)
theorem xs_pop {v : xV} (hd : decode (xcode y) pc = .ok (.pop, 1)) (hc : xcat v = 1) (k : xEv g l d y (pc + 1) ls (st) h r h') : xEv g l d y pc ls (v :: st) h r h' := by
  intro p e s m args below meth c H locs la F v1 v2 v3 hP hS hl
  exact lv_pop F.1 F.2.1 hd (by rw [xcv_cat]; exact hc) (k p e s m args below meth c H locs la F v1 v2.t v3 hP hS hl)
theorem xs_dup2 {u v : xV} (hd : decode (xcode y) pc = .ok (.dup2, 1)) (hc : xcat u = 1) (hc2 : xcat v = 1) (k : xEv g l d y (pc + 1) ls (u :: v :: u :: v :: st) h r h') : xEv g l d y pc ls (u :: v :: st) h r h' := by
  intro p e s m args below meth c H locs la F v1 v2 v3 hP hS hl
  exact lv_dup2_11 F.1 F.2.1 hd (by rw [xcv_cat]; exact hc) (by rw [xcv_cat]; exact hc2) (k p e s m args below meth c H locs la F v1 (xvl.c v2.h (xvl.c v2.t.h v2)) v3 hP hS hl)
theorem xs_goto {off : Int} {tgt : Nat} (hd : decode (xcode y) pc = .ok (.goto off, 3)) (ht : (pc : Int) + off = (tgt : Int)) (k : xEv g l d y tgt ls st h r h') : xEv g l d y pc ls st h r h' := by
  intro p e s m args below meth c H locs la F v1 v2 v3 hP hS hl
  exact lv_goto F.1 F.2.1 hd ht (k p e s m args below meth c H locs la F v1 v2 v3 hP hS hl)
theorem xs_icmp_eq {a b : Int32} {off : Int} {tgt : Nat} (hd : decode (xcode y) pc = .ok (.if_icmp .eq off, 3)) (ht : (pc : Int) + off = (tgt : Int)) (kt : (a = b) → xEv g l d y tgt ls st h r h') (kf : ¬ (a = b) → xEv g l d y (pc + 3) ls st h r h') : xEv g l d y pc ls (xi b :: xi a :: st) h r h' := by
  intro p e s m args below meth c H locs la F v1 v2 v3 hP hS hl
  exact lv_icmp_eq F.1 F.2.1 hd ht (fun q => kt q p e s m args below meth c H locs la F v1 v2.t.t v3 hP hS hl) (fun q => kf q p e s m args below meth c H locs la F v1 v2.t.t v3 hP hS hl)
theorem xs_if_eq {a : Int32} {off : Int} {tgt : Nat} (hd : decode (xcode y) pc = .ok (.ifCond .eq off, 3)) (ht : (pc : Int) + off = (tgt : Int)) (kt : (a = 0) → xEv g l d y tgt ls st h r h') (kf : ¬ (a = 0) → xEv g l d y (pc + 3) ls st h r h') : xEv g l d y pc ls (xi a :: st) h r h' := by
  intro p e s m args below meth c H locs la F v1 v2 v3 hP hS hl
  exact lv_if_eq F.1 F.2.1 hd ht (fun q => kt q p e s m args below meth c H locs la F v1 v2.t v3 hP hS hl) (fun q => kf q p e s m args below meth c H locs la F v1 v2.t v3 hP hS hl)
theorem xs_icmp_lt {a b : Int32} {off : Int} {tgt : Nat} (hd : decode (xcode y) pc = .ok (.if_icmp .lt off, 3)) (ht : (pc : Int) + off = (tgt : Int)) (kt : (a < b) → xEv g l d y tgt ls st h r h') (kf : ¬ (a < b) → xEv g l d y (pc + 3) ls st h r h') : xEv g l d y pc ls (xi b :: xi a :: st) h r h' := by
  intro p e s m args below meth c H locs la F v1 v2 v3 hP hS hl
  exact lv_icmp_lt F.1 F.2.1 hd ht (fun q => kt q p e s m args below meth c H locs la F v1 v2.t.t v3 hP hS hl) (fun q => kf q p e s m args below meth c H locs la F v1 v2.t.t v3 hP hS hl)
theorem xs_if_lt {a : Int32} {off : Int} {tgt : Nat} (hd : decode (xcode y) pc = .ok (.ifCond .lt off, 3)) (ht : (pc : Int) + off = (tgt : Int)) (kt : (a < 0) → xEv g l d y tgt ls st h r h') (kf : ¬ (a < 0) → xEv g l d y (pc + 3) ls st h r h') : xEv g l d y pc ls (xi a :: st) h r h' := by
  intro p e s m args below meth c H locs la F v1 v2 v3 hP hS hl
  exact lv_if_lt F.1 F.2.1 hd ht (fun q => kt q p e s m args below meth c H locs la F v1 v2.t v3 hP hS hl) (fun q => kf q p e s m args below meth c H locs la F v1 v2.t v3 hP hS hl)
theorem xs_icmp_ge {a b : Int32} {off : Int} {tgt : Nat} (hd : decode (xcode y) pc = .ok (.if_icmp .ge off, 3)) (ht : (pc : Int) + off = (tgt : Int)) (kt : (b ≤ a) → xEv g l d y tgt ls st h r h') (kf : ¬ (b ≤ a) → xEv g l d y (pc + 3) ls st h r h') : xEv g l d y pc ls (xi b :: xi a :: st) h r h' := by
  intro p e s m args below meth c H locs la F v1 v2 v3 hP hS hl
  exact lv_icmp_ge F.1 F.2.1 hd ht (fun q => kt q p e s m args below meth c H locs la F v1 v2.t.t v3 hP hS hl) (fun q => kf q p e s m args below meth c H locs la F v1 v2.t.t v3 hP hS hl)
theorem xs_if_ge {a : Int32} {off : Int} {tgt : Nat} (hd : decode (xcode y) pc = .ok (.ifCond .ge off, 3)) (ht : (pc : Int) + off = (tgt : Int)) (kt : (0 ≤ a) → xEv g l d y tgt ls st h r h') (kf : ¬ (0 ≤ a) → xEv g l d y (pc + 3) ls st h r h') : xEv g l d y pc ls (xi a :: st) h r h' := by
  intro p e s m args below meth c H locs la F v1 v2 v3 hP hS hl
  exact lv_if_ge F.1 F.2.1 hd ht (fun q => kt q p e s m args below meth c H locs la F v1 v2.t v3 hP hS hl) (fun q => kf q p e s m args below meth c H locs la F v1 v2.t v3 hP hS hl)
theorem xs_icmp_gt {a b : Int32} {off : Int} {tgt : Nat} (hd : decode (xcode y) pc = .ok (.if_icmp .gt off, 3)) (ht : (pc : Int) + off = (tgt : Int)) (kt : (b < a) → xEv g l d y tgt ls st h r h') (kf : ¬ (b < a) → xEv g l d y (pc + 3) ls st h r h') : xEv g l d y pc ls (xi b :: xi a :: st) h r h' := by
  intro p e s m args below meth c H locs la F v1 v2 v3 hP hS hl
  exact lv_icmp_gt F.1 F.2.1 hd ht (fun q => kt q p e s m args below meth c H locs la F v1 v2.t.t v3 hP hS hl) (fun q => kf q p e s m args below meth c H locs la F v1 v2.t.t v3 hP hS hl)
theorem xs_if_gt {a : Int32} {off : Int} {tgt : Nat} (hd : decode (xcode y) pc = .ok (.ifCond .gt off, 3)) (ht : (pc : Int) + off = (tgt : Int)) (kt : (0 < a) → xEv g l d y tgt ls st h r h') (kf : ¬ (0 < a) → xEv g l d y (pc + 3) ls st h r h') : xEv g l d y pc ls (xi a :: st) h r h' := by
  intro p e s m args below meth c H locs la F v1 v2 v3 hP hS hl
  exact lv_if_gt F.1 F.2.1 hd ht (fun q => kt q p e s m args below meth c H locs la F v1 v2.t v3 hP hS hl) (fun q => kf q p e s m args below meth c H locs la F v1 v2.t v3 hP hS hl)
theorem xs_icmp_le {a b : Int32} {off : Int} {tgt : Nat} (hd : decode (xcode y) pc = .ok (.if_icmp .le off, 3)) (ht : (pc : Int) + off = (tgt : Int)) (kt : (a ≤ b) → xEv g l d y tgt ls st h r h') (kf : ¬ (a ≤ b) → xEv g l d y (pc + 3) ls st h r h') : xEv g l d y pc ls (xi b :: xi a :: st) h r h' := by
  intro p e s m args below meth c H locs la F v1 v2 v3 hP hS hl
  exact lv_icmp_le F.1 F.2.1 hd ht (fun q => kt q p e s m args below meth c H locs la F v1 v2.t.t v3 hP hS hl) (fun q => kf q p e s m args below meth c H locs la F v1 v2.t.t v3 hP hS hl)
theorem xs_if_le {a : Int32} {off : Int} {tgt : Nat} (hd : decode (xcode y) pc = .ok (.ifCond .le off, 3)) (ht : (pc : Int) + off = (tgt : Int)) (kt : (a ≤ 0) → xEv g l d y tgt ls st h r h') (kf : ¬ (a ≤ 0) → xEv g l d y (pc + 3) ls st h r h') : xEv g l d y pc ls (xi a :: st) h r h' := by
  intro p e s m args below meth c H locs la F v1 v2 v3 hP hS hl
  exact lv_if_le F.1 F.2.1 hd ht (fun q => kt q p e s m args below meth c H locs la F v1 v2.t v3 hP hS hl) (fun q => kf q p e s m args below meth c H locs la F v1 v2.t v3 hP hS hl)
theorem xs_icmp_ne {a b : Int32} {off : Int} {tgt : Nat} (hd : decode (xcode y) pc = .ok (.if_icmp .ne off, 3)) (ht : (pc : Int) + off = (tgt : Int)) (kf : a = b → xEv g l d y (pc + 3) ls st h r h') (kt : ¬ a = b → xEv g l d y tgt ls st h r h') : xEv g l d y pc ls (xi b :: xi a :: st) h r h' := by
  intro p e s m args below meth c H locs la F v1 v2 v3 hP hS hl
  exact lv_icmp_ne F.1 F.2.1 hd ht (fun q => kt q p e s m args below meth c H locs la F v1 v2.t.t v3 hP hS hl) (fun q => kf q p e s m args below meth c H locs la F v1 v2.t.t v3 hP hS hl)
theorem xs_if_ne {a : Int32} {off : Int} {tgt : Nat} (hd : decode (xcode y) pc = .ok (.ifCond .ne off, 3)) (ht : (pc : Int) + off = (tgt : Int)) (kf : a = 0 → xEv g l d y (pc + 3) ls st h r h') (kt : ¬ a = 0 → xEv g l d y tgt ls st h r h') : xEv g l d y pc ls (xi a :: st) h r h' := by
  intro p e s m args below meth c H locs la F v1 v2 v3 hP hS hl
  exact lv_if_ne F.1 F.2.1 hd ht (fun q => kt q p e s m args below meth c H locs la F v1 v2.t v3 hP hS hl) (fun q => kf q p e s m args below meth c H locs la F v1 v2.t v3 hP hS hl)
theorem xs_nonnull {cN : Nat} {o : Option Nat} {off : Int} {tgt : Nat} (hd : decode (xcode y) pc = .ok (.ifnonnull off, 3)) (ht : (pc : Int) + off = (tgt : Int)) (kt : ∀ i, o = some i → xEv g l d y tgt ls st h r h') (kf : o = none → xEv g l d y (pc + 3) ls st h r h') : xEv g l d y pc ls (xr cN o :: st) h r h' := by
  intro p e s m args below meth c H locs la F v1 v2 v3 hP hS hl
  cases o with
  | none => exact lv_ifnonnullN F.1 F.2.1 hd (kf rfl p e s m args below meth c H locs la F v1 v2.t v3 hP hS hl)
  | some i => exact lv_ifnonnull F.1 F.2.1 hd ht (kt i rfl p e s m args below meth c H locs la F v1 v2.t v3 hP hS hl)
theorem xs_tableOut {dflt lo hi : Int} {offs : Array Int} {len : Nat} {a : Int32} {tgt : Nat} (hd : decode (xcode y) pc = .ok (.tableswitch dflt lo hi offs, len)) (hr : a.toInt < lo ∨ hi < a.toInt) (ht : (pc : Int) + dflt = (tgt : Int)) (k : xEv g l d y tgt ls st h r h') : xEv g l d y pc ls (xi a :: st) h r h' := by
  intro p e s m args below meth c H locs la F v1 v2 v3 hP hS hl
  exact lv_tableOut F.1 F.2.1 hd hr ht (k p e s m args below meth c H locs la F v1 v2.t v3 hP hS hl)
theorem xs_tableIn {dflt lo hi off : Int} {offs : Array Int} {len : Nat} {a : Int32} {tgt : Nat} (hd : decode (xcode y) pc = .ok (.tableswitch dflt lo hi offs, len)) (h1 : ¬ a.toInt < lo) (h2 : ¬ hi < a.toInt) (ho : offs[(a.toInt - lo).toNat]? = some off) (ht : (pc : Int) + off = (tgt : Int)) (k : xEv g l d y tgt ls st h r h') : xEv g l d y pc ls (xi a :: st) h r h' := by
  intro p e s m args below meth c H locs la F v1 v2 v3 hP hS hl
  exact lv_tableIn F.1 F.2.1 hd h1 h2 ho ht (k p e s m args below meth c H locs la F v1 v2.t v3 hP hS hl)
theorem xs_lookup {dflt off : Int} {ps : Array (Int × Int)} {len : Nat} {a : Int32} {tgt : Nat} (hd : decode (xcode y) pc = .ok (.lookupswitch dflt ps, len)) (hp : (ps.toList.zip (ps.toList.drop 1)).all (fun (a, next) => a.1 < next.1) = true) (ho : Op.lookupswitch.offset ps.toList dflt a.toInt = off) (ht : (pc : Int) + off = (tgt : Int)) (k : xEv g l d y tgt ls st h r h') : xEv g l d y pc ls (xi a :: st) h r h' := by
  intro p e s m args below meth c H locs la F v1 v2 v3 hP hS hl
  exact lv_lookup F.1 F.2.1 hd hp ho ht (k p e s m args below meth c H locs la F v1 v2.t v3 hP hS hl)
theorem xs_sub {ls2 : List (Nat × xV)} (hs : ∀ q ∈ ls2, q ∈ ls) (k : xEv g l d y pc ls2 st h r h') : xEv g l d y pc ls st h r h' := by
  intro p e s m args below meth c H locs la F v1 v2 v3 hP hS hl
  refine k p e s m args below meth c H locs la F (fun q hq => v1 q (hs q hq)) v2 v3 hP hS ⟨hl.1, hl.2.1, fun q hq => hl.2.2 q ?_⟩
  obtain ⟨z, hz, ez⟩ := List.mem_map.mp hq
  exact List.mem_map.mpr ⟨z, hs z hz, ez⟩
def xpick (ls : List (Nat × xV)) (ks : List Nat) : List (Nat × xV) := ks.filterMap (fun k => ls[k]?)
theorem xs_pick {ls2 : List (Nat × xV)} (ks : List Nat) (hs : xpick ls ks = ls2) (k : xEv g l d y pc ls2 st h r h') : xEv g l d y pc ls st h r h' := by
  refine xs_sub (fun q hq => ?_) k
  rw [← hs] at hq
  obtain ⟨z, -, hz⟩ := List.mem_filterMap.mp hq
  exact List.mem_of_getElem? hz
theorem xs_iret {a : Int32} (hd : decode (xcode y) pc = .ok (.ireturn, 1)) (hr : xret y = some .int) : xEv g l d y pc ls (xi a :: []) h (some (xi a)) h := by
  intro p e s m args below meth c H locs la F v1 v2 v3 hP hS hl
  exact W.iret F.1 F.2.1 (F.2.2.1.trans hr) (fun t ht hW => ⟨rfl, by rw [ht]; exact hP, hS.F ht, v3, fun v e => by cases e; trivial⟩) hS.2.2 hd F.2.2.2.2.2.2.1
theorem xs_zret {a : Int32} (hd : decode (xcode y) pc = .ok (.ireturn, 1)) (hz : narrow .boolean (.int a) = .int a) (hr : xret y = some .boolean) : xEv g l d y pc ls (xi a :: []) h (some (xi a)) h := by
  intro p e s m args below meth c H locs la F v1 v2 v3 hP hS hl
  exact W.zret F.1 F.2.1 (F.2.2.1.trans hr) hz (fun t ht hW => ⟨rfl, by rw [ht]; exact hP, hS.F ht, v3, fun v e => by cases e; trivial⟩) hS.2.2 hd F.2.2.2.2.2.2.1
theorem xs_lret {a : Int64} (hd : decode (xcode y) pc = .ok (.lreturn, 1)) (hr : xret y = some .long) : xEv g l d y pc ls (xl a :: []) h (some (xl a)) h := by
  intro p e s m args below meth c H locs la F v1 v2 v3 hP hS hl
  exact W.lret F.1 F.2.1 (F.2.2.1.trans hr) (fun t ht hW => ⟨rfl, by rw [ht]; exact hP, hS.F ht, v3, fun v e => by cases e; trivial⟩) hS.2.2 hd F.2.2.2.2.2.2.1
theorem xs_vret (hd : decode (xcode y) pc = .ok (.return_, 1)) (hr : xret y = none) : xEv g l d y pc ls ([]) h none h := by
  intro p e s m args below meth c H locs la F v1 v2 v3 hP hS hl
  exact W.vret F.1 F.2.1 (F.2.2.1.trans hr) (fun t ht hW => ⟨rfl, by rw [ht]; exact hP, hS.F ht, v3, fun v e => by cases e⟩) hS.2.2 hd F.2.2.2.2.2.2.1
theorem xs_aret {cN : Nat} {o : Option Nat} {C : String} (hd : decode (xcode y) pc = .ok (.areturn, 1)) (hr : xret y = some (.object C)) : xEv g l d y pc ls (xr cN o :: []) h (some (xr cN o)) h := by
  intro p e s m args below meth c H locs la F v1 v2 v3 hP hS hl
  refine W.aret F.1 F.2.1 (F.2.2.1.trans hr) (Or.inl ⟨_, rfl⟩) ?_ (fun t ht hW => ⟨rfl, by rw [ht]; exact hP, hS.F ht, v3, fun v e => by cases e; exact v2.h⟩) hS.2.2 hd F.2.2.2.2.2.2.1
  cases o with
  | none => exact Or.inl rfl
  | some i => exact Or.inr ⟨_, rfl⟩
end XROWS
