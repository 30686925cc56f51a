/-! the judgement of a constructor's frame, its rows, and the run -/
section CEV
variable {D : va_G} {κ : Nat → ClassId} {l : Launch} {d y MC MS sz pc : Nat} {ads0 : List Nat} {ls : List (Nat × cV)} {st : List cV} {ns ns' : List cE}
def ctys (κ : Nat → ClassId) : List (ClassId × FieldType) := [(κ 0, .int), (κ 1, .byte), (κ 2, .long), (κ 3, .boolean), (κ 4, .object "BeanTrug$Rule"), (κ 5, .object "BeanTrug$Scene"), (κ 6, .object "BeanTrug$State")]
def cFr (D : va_G) (κ : Nat → ClassId) (y : Nat) (p : Program) (s : State) (m : MethodId) (args : Array Value) (meth : Method) (c : Code) : Prop :=
  p.tables.exec = Jvm.exec ∧ c.code = ccode y ∧ meth.sig.returnType = none ∧ c.maxLocals = cmaxL y ∧ s.vm.findClass (xon y) = some m.cls ∧ (∀ w ∈ cwords y, w.before args s = true) ∧ meth.locks = false ∧ va_K D vwCl (ctys κ) s ∧ meth.name = "<init>" ∧ y < 13 ∧ va_AO "BeanTrug$Rule" s ∧ va_AO "BeanTrug$Scene" s ∧ va_AO "BeanTrug$State" s
def cA (ads : List Nat) (sz : Nat) : Nat → Prop := fun q => q ∈ ads ∨ sz ≤ q
def croom (d mc ms : Nat) : Room := { frames := d, cells := mc, slots := ms, locals := 60 * d }
def cvl (n : Nat) (st : List cV) : Prop := ∀ v ∈ st, cvd n v
def cvq (n : Nat) (ls : List (Nat × cV)) : Prop := ∀ q ∈ ls, cvd n q.2
def cel (n : Nat) (ns : List cE) : Prop := ∀ x ∈ ns, ced n x
def cQ (D : va_G) (κ : Nat → ClassId) (ads0 : List Nat) (sz : Nat) (ns' : List cE) : Array Value → State → Outcome → State → Prop := fun _ st o t => o = .returned none ∧ (∃ ads : List Nat, (∃ tl, ads = ads0 ++ tl) ∧ ads.length = ns'.length ∧ va_P D vwCl (cws κ ads ns') t.heap ∧ va_D (cA ads0 sz) (cws κ ads ns') ∧ cel ns'.length ns') ∧ va_F (cA ads0 sz) st t
theorem cvl.c {n : Nat} {v : cV} {st : List cV} (h : cvd n v) (h2 : cvl n st) : cvl n (v :: st) := fun x hx => (List.mem_cons.mp hx).elim (fun e => e ▸ h) (h2 x)
theorem cvl.t {n : Nat} {v : cV} {st : List cV} (h : cvl n (v :: st)) : cvl n st := fun x hx => h x (List.mem_cons_of_mem _ hx)
theorem cvl.h {n : Nat} {v : cV} {st : List cV} (h : cvl n (v :: st)) : cvd n v := h v List.mem_cons_self
theorem cvd.up {n m : Nat} {v : cV} (h : cvd n v) (hm : n ≤ m) : cvd m v := by
  rcases v with x | x | _ | k
  · trivial
  · trivial
  · trivial
  · exact Nat.lt_of_lt_of_le h hm
theorem ced.up {n m : Nat} {e : cE} (h : ced n e) (hm : n ≤ m) : ced m e := by
  rcases e with ⟨c, fs⟩ | ⟨t, k, rs⟩
  · exact fun v hv => (h v hv).up hm
  · exact fun k hk => Nat.lt_of_lt_of_le (h k hk) hm
/-- a constructor's frame comes to its end with the cells ns' -/
def cEv (D : va_G) (κ : Nat → ClassId) (l : Launch) (d y MC MS sz : Nat) (ads0 : List Nat) (pc : Nat) (ls : List (Nat × cV)) (st : List cV) (ns ns' : List cE) : Prop :=
  ∀ (p : Program) (e : Env) (s : State) (m : MethodId) (args : Array Value) (below : List Frame) (meth : Method) (c : Code) (H : Heap) (locs : List Loc) (la : Array Slot) (ads : List Nat) (kc ks : Nat),
    cFr D κ y p s m args meth c → s.heap.size = sz → (∃ tl, ads = ads0 ++ tl) → ads.length = ns.length → cvq ns.length ls → cvl ns.length st → cel ns.length ns → va_P D vwCl (cws κ ads ns) H → va_D (cA ads0 sz) (cws κ ads ns) → va_S (cA ads0 sz) s.heap H locs → lv_has la (cmaxL y) (ls.map (fun q => (q.1, ccv ads q.2))) → kc + ns'.length = MC + ns.length → ks + csz ns' = MS + csz ns →
    W p l e (croom d MC MS) s m args below meth c H locs kc ks (MQ below (cQ D κ ads0 sz ns') args s MC MS (cA ads0 sz)) (F0 m pc la (st.map (ccv ads)))
theorem cFr.wd {p : Program} {s : State} {m : MethodId} {args : Array Value} {meth : Method} {c : Code} (F : cFr D κ y p s m args meth c) {w : Cond} (h : w ∈ lw_tbl) (hg : goodWord w = true) : w.before args s = true := F.2.2.2.2.2.1 _ (List.mem_cons_of_mem _ (xin h hg))
theorem cFr.K {p : Program} {s : State} {m : MethodId} {args : Array Value} {meth : Method} {c : Code} (F : cFr D κ y p s m args meth c) : va_K D vwCl (ctys κ) s := F.2.2.2.2.2.2.2.1
def ccat : cV → Nat
  | .inr (.inl _) => 2
  | _ => 1
theorem ccv_cat (ads : List Nat) (v : cV) : (ccv ads v).category = ccat v := by
  rcases v with x | x | _ | k <;> rfl
def cget (ls : List (Nat × cV)) (i : Nat) : Option cV := (ls.find? (fun q => q.1 == i)).map (fun q => q.2)
theorem cget_mem {i : Nat} {v : cV} (hg : cget ls i = some v) : (i, v) ∈ ls := by
  unfold cget at hg
  obtain ⟨q, h1, h2⟩ := Option.map_eq_some_iff.mp hg
  have h4 : q.1 = i := by simpa using List.find?_some h1
  rw [← h4, ← h2]
  exact List.mem_of_find?_eq_some h1
theorem cget_at {ads : List Nat} {la : Array Slot} {n i : Nat} {v : cV} (hl : lv_has la n (ls.map (fun q => (q.1, ccv ads q.2)))) (hg : cget ls i = some v) : la[i]? = some (.val (ccv ads v)) :=
  hl.2.2 (i, ccv ads v) (List.mem_map.mpr ⟨(i, v), cget_mem hg, rfl⟩)
def cput (ls : List (Nat × cV)) (i : Nat) (v : cV) : List (Nat × cV) := (i, v) :: ls.filter (fun q => !(q.1 == i) && !(q.1 + 1 == i && ccat q.2 == 2))
theorem cput_vq {n i : Nat} {v : cV} (hv : cvq n ls) (h1 : cvd n v) : cvq n (cput ls i v) := fun q hq => by
  rcases List.mem_cons.mp hq with e | e
  · rw [e]; exact h1
  · exact hv q (List.mem_filter.mp e).1
theorem cput_has {ads : List Nat} {la : Array Slot} {n i : Nat} {v : cV} (hl : lv_has la n ((i, ccv ads v) :: (ls.map (fun q => (q.1, ccv ads q.2))).filter (fun q => !(q.1 == i) && !(q.1 + 1 == i && q.2.category == 2)))) : lv_has la n ((cput ls i v).map (fun q => (q.1, ccv ads q.2))) := by
  refine ⟨hl.1, hl.2.1, fun q hq => hl.2.2 q ?_⟩
  obtain ⟨z, hz, e⟩ := List.mem_map.mp hq
  rcases List.mem_cons.mp hz with e1 | e1
  · rw [← e, e1]; exact List.mem_cons_self
  · obtain ⟨m1, m2⟩ := List.mem_filter.mp e1
    refine List.mem_cons_of_mem _ (List.mem_filter.mpr ⟨List.mem_map.mpr ⟨z, m1, e⟩, ?_⟩)
    rw [← e]
    simpa [ccv_cat] using m2
theorem ct_num {v : Int32} {ln : Nat} (k : cEv D κ l d y MC MS sz ads0 (pc + ln) ls (.inl v :: st) ns ns') (row : ∀ {p : Program} {e : Env} {s : State} {m : MethodId} {args : Array Value} {below : List Frame} {meth : Method} {c : Code} {H : Heap} {locs : List Loc} {la : Array Slot} {kc ks : Nat} {R : Room} {Q : State → Prop} {rest : List Value}, p.tables.exec = Jvm.exec → c.code = ccode y → W p l e R s m args below meth c H locs kc ks Q (F0 m (pc + ln) la (.int v :: rest)) → W p l e R s m args below meth c H locs kc ks Q (F0 m pc la rest)) : cEv D κ l d y MC MS sz ads0 pc ls st ns ns' := by
  intro p e s m args below meth c H locs la ads kc ks F hz ha hl v1 v2 v3 hP hD hS hla h1 h2
  exact row F.1 F.2.1 (k p e s m args below meth c H locs la ads kc ks F hz ha hl v1 (cvl.c trivial v2) v3 hP hD hS hla h1 h2)
theorem ct_load {i ln : Nat} {v : cV} (hg : cget ls i = some v) (k : cEv D κ l d y MC MS sz ads0 (pc + ln) ls (v :: st) ns ns') (row : ∀ {ads : List Nat} {p : Program} {e : Env} {s : State} {m : MethodId} {args : Array Value} {below : List Frame} {meth : Method} {c : Code} {H : Heap} {locs : List Loc} {la : Array Slot} {kc ks : Nat} {R : Room} {Q : State → Prop} {rest : List Value}, p.tables.exec = Jvm.exec → c.code = ccode y → la[i]? = some (.val (ccv ads v)) → W p l e R s m args below meth c H locs kc ks Q (F0 m (pc + ln) la (ccv ads v :: rest)) → W p l e R s m args below meth c H locs kc ks Q (F0 m pc la rest)) : cEv D κ l d y MC MS sz ads0 pc ls st ns ns' := by
  intro p e s m args below meth c H locs la ads kc ks F hz ha hl v1 v2 v3 hP hD hS hla h1 h2
  exact row F.1 F.2.1 (cget_at hla hg) (k p e s m args below meth c H locs la ads kc ks F hz ha hl v1 (cvl.c (v1 _ (cget_mem hg)) v2) v3 hP hD hS hla h1 h2)
theorem ct_aload_n {j : Fin 4} {o : Option Nat} (hd : decode (ccode y) pc = .ok (.aload_n j, 1)) (hg : cget ls (j : Nat) = some (.inr (.inr o))) (k : cEv D κ l d y MC MS sz ads0 (pc + 1) ls (.inr (.inr o) :: st) ns ns') : cEv D κ l d y MC MS sz ads0 pc ls st ns ns' := by
  refine ct_load hg k ?_
  intro ads p e s m args below meth c H locs la kc ks R Q rest hx hb hat kk
  cases o with
  | none => exact lv_aload_nN hx hb hd rfl hat kk
  | some i => exact lv_aload_n hx hb hd rfl hat kk
theorem ct_iload_n {j : Fin 4} {a : Int32} (hd : decode (ccode y) pc = .ok (.iload_n j, 1)) (hg : cget ls (j : Nat) = some (.inl a)) (k : cEv D κ l d y MC MS sz ads0 (pc + 1) ls (.inl a :: st) ns ns') : cEv D κ l d y MC MS sz ads0 pc ls st ns ns' :=
  ct_load hg k (fun hx hb hat kk => lv_iload_n hx hb hd rfl hat kk)
theorem ct_istore_n {j : Fin 4} {a : Int32} (hd : decode (ccode y) pc = .ok (.istore_n j, 1)) (hn : (j : Nat) < cmaxL y) (k : cEv D κ l d y MC MS sz ads0 (pc + 1) (cput ls (j : Nat) (.inl a)) st ns ns') : cEv D κ l d y MC MS sz ads0 pc ls (.inl a :: st) ns ns' := by
  intro p e s m args below meth c H locs la ads kc ks F hz ha hl v1 v2 v3 hP hD hS hla h1 h2
  exact lv_istore_n F.1 F.2.1 hd rfl hla hn rfl (fun la2 hla2 => k p e s m args below meth c H locs la2 ads kc ks F hz ha hl (cput_vq v1 trivial) v2.t v3 hP hD hS (cput_has (v := .inl a) hla2) h1 h2)
theorem ct_iinc {j : Nat} {n : Int} {a : Int32} (hd : decode (ccode y) pc = .ok (.iinc j n, 3)) (hg : cget ls j = some (.inl a)) (hn : j < cmaxL y) (k : cEv D κ l d y MC MS sz ads0 (pc + 3) (cput ls j (.inl (a + Int32.ofInt n))) st ns ns') : cEv D κ l d y MC MS sz ads0 pc ls st ns ns' := by
  intro p e s m args below meth c H locs la ads kc ks F hz ha hl v1 v2 v3 hP hD hS hla h1 h2
  obtain ⟨q, hq⟩ := List.getElem?_of_mem (List.mem_map.mpr ⟨(j, .inl a), cget_mem hg, rfl⟩ : (j, ccv ads (.inl a)) ∈ ls.map (fun q => (q.1, ccv ads q.2)))
  exact lv_iinc F.1 F.2.1 hd hla hq rfl hn rfl (fun la2 hla2 => k p e s m args below meth c H locs la2 ads kc ks F hz ha hl (cput_vq v1 trivial) v2 v3 hP hD hS (cput_has (v := .inl (a + Int32.ofInt n)) hla2) h1 h2)
theorem ct_dup {v : cV} (hd : decode (ccode y) pc = .ok (.dup, 1)) (hc : ccat v = 1) (k : cEv D κ l d y MC MS sz ads0 (pc + 1) ls (v :: v :: st) ns ns') : cEv D κ l d y MC MS sz ads0 pc ls (v :: st) ns ns' := by
  intro p e s m args below meth c H locs la ads kc ks F hz ha hl v1 v2 v3 hP hD hS hla h1 h2
  exact lv_dup F.1 F.2.1 hd (by rw [ccv_cat]; exact hc) (k p e s m args below meth c H locs la ads kc ks F hz ha hl v1 (cvl.c v2.h v2) v3 hP hD hS hla h1 h2)
theorem ct_goto {off : Int} {tgt : Nat} (hd : decode (ccode y) pc = .ok (.goto off, 3)) (ht : (pc : Int) + off = (tgt : Int)) (k : cEv D κ l d y MC MS sz ads0 tgt ls st ns ns') : cEv D κ l d y MC MS sz ads0 pc ls st ns ns' := by
  intro p e s m args below meth c H locs la ads kc ks F hz ha hl v1 v2 v3 hP hD hS hla h1 h2
  exact lv_goto F.1 F.2.1 hd ht (k p e s m args below meth c H locs la ads kc ks F hz ha hl v1 v2 v3 hP hD hS hla h1 h2)
theorem ct_ge {a b : Int32} {off : Int} {tgt : Nat} (hd : decode (ccode y) pc = .ok (.if_icmp .ge off, 3)) (ht : (pc : Int) + off = (tgt : Int)) (kt : b ≤ a → cEv D κ l d y MC MS sz ads0 tgt ls st ns ns') (kf : ¬ b ≤ a → cEv D κ l d y MC MS sz ads0 (pc + 3) ls st ns ns') : cEv D κ l d y MC MS sz ads0 pc ls (.inl b :: .inl a :: st) ns ns' := by
  intro p e s m args below meth c H locs la ads kc ks F hz ha hl v1 v2 v3 hP hD hS hla h1 h2
  exact lv_icmp_ge F.1 F.2.1 hd ht (fun q => kt q p e s m args below meth c H locs la ads kc ks F hz ha hl v1 v2.t.t v3 hP hD hS hla h1 h2) (fun q => kf q p e s m args below meth c H locs la ads kc ks F hz ha hl v1 v2.t.t v3 hP hD hS hla h1 h2)
theorem ct_ret (hd : decode (ccode y) pc = .ok (.return_, 1)) : cEv D κ l d y MC MS sz ads0 pc ls [] ns ns := by
  intro p e s m args below meth c H locs la ads kc ks F hz ha hl v1 v2 v3 hP hD hS hla h1 h2
  obtain rfl : kc = MC := by omega
  obtain rfl : ks = MS := by omega
  exact W.vret F.1 F.2.1 F.2.2.1 (fun t ht hW => ⟨rfl, ⟨ads, ha, hl, by rw [ht]; exact hP, hD, v3⟩, hS.F ht⟩) hS.2.2 hd F.2.2.2.2.2.2.1
theorem ccl_at {n o idx c pl : Nat} (hn : cclT[n]? = some (o, idx, c, pl)) : c < 13 ∧ Cond.classLink (xon o) idx (xon c) ∈ lw_tbl := by
  have h := xmem_all ccl_ok hn
  simp only [cclOk, Bool.and_eq_true, decide_eq_true_eq] at h
  exact ⟨h.1, List.mem_of_getElem? h.2⟩
theorem cm_at (hy : y < 13) : plainFor (cname y) = true ∧ (cname y).cls = xon y ∧ (cname y).name = "<init>" ∧ (parseMethodDescriptor (cname y).desc).map (fun d => d.parameters.length) = some (cnarg y) ∧ cmaxL y ≤ 40 ∧ (xcl y).1 = xon y ∧ Cond.instantiable (xon y) (xcl y).2.2 ∈ lw_tbl ∧ Cond.initialized (xon y) ∈ lw_tbl ∧ Cond.instanceMethod (cname y) ∈ lw_tbl := by
  have h := List.all_eq_true.mp cm_ok y (List.mem_range.mpr hy)
  simp only [cmOk, Bool.and_eq_true, decide_eq_true_eq] at h
  obtain ⟨h1, h2, h3, h4, h5, h6, h7⟩ := h
  split at h7
  · cases h7
  · simp only [Bool.and_eq_true, decide_eq_true_eq] at h7
    exact ⟨h1, h2, h3, h4, h5, h6, List.mem_of_getElem? h7.1, List.mem_of_getElem? h7.2.1, List.mem_of_getElem? h7.2.2⟩
theorem cgrow {q : Nat} {x : cE} {ads : List Nat} (hl : ads.length = ns.length) (v3 : cel ns.length ns) (hx : ced (ns.length + 1) x) : (ads ++ [q]).length = (ns ++ [x]).length ∧ cel (ns ++ [x]).length (ns ++ [x]) ∧ cws κ (ads ++ [q]) (ns ++ [x]) = cws κ ads ns ++ [(q, cce κ (ads ++ [q]) x)] := by
  refine ⟨by simp [hl], fun z hz => ?_, cws_app hl (by rw [hl]; exact v3)⟩
  rw [List.length_append, List.length_singleton]
  rcases List.mem_append.mp hz with h | h
  · exact (v3 z h).up (by omega)
  · rw [List.mem_singleton.mp h]; exact hx
theorem cup_ls {q : Nat} {ads : List Nat} (hl : ads.length = ns.length) (v1 : cvq ns.length ls) : ls.map (fun z => (z.1, ccv (ads ++ [q]) z.2)) = ls.map (fun z => (z.1, ccv ads z.2)) := List.map_congr_left (fun z hz => by rw [ccv_app (by rw [hl]; exact v1 z hz)])
theorem cup_st {q : Nat} {ads : List Nat} (hl : ads.length = ns.length) (v2 : cvl ns.length st) : st.map (ccv (ads ++ [q])) = st.map (ccv ads) := List.map_congr_left (fun z hz => by rw [ccv_app (by rw [hl]; exact v2 z hz)])
theorem cnew_top {q : Nat} {ads : List Nat} (hl : ads.length = ns.length) : ccv (ads ++ [q]) (.inr (.inr (some ns.length))) = .ref q := by
  show va_rf (some ((ads ++ [q]).getD ns.length 0)) = .ref q
  rw [List.getD_eq_getElem?_getD, List.getElem?_append_right (by omega), ← hl]
  simp [va_rf]
theorem csz_app (ns : List cE) (x : cE) : csz (ns ++ [x]) = csz ns + csz1 x := by
  unfold csz
  rw [List.map_append, List.sum_append]
  simp
def cdef (c : Nat) : List cV := (List.range (xnf c)).map (fun k => if (xfk c k).1 = 0 then .inl 0 else if (xfk c k).1 = 1 then .inr (.inl 0) else .inr (.inr none))
def cdefOk (c : Nat) : Bool := (List.range (xnf c)).all (fun k => decide ((parseFieldDescriptor ((xcl c).2.1 k).2.2.1).map defaultValue = some (vp_V ((cdef c).map (ccv [])) k)))
set_option maxRecDepth 100000 in
theorem cdef_ok : (List.range 13).all cdefOk = true := by decide +kernel
theorem cdef_vd {n : Nat} (c : Nat) : ∀ v ∈ cdef c, cvd n v := by
  intro v hv
  obtain ⟨k, -, e⟩ := List.mem_map.mp hv
  rw [← e]
  split
  · trivial
  · split <;> trivial
theorem cdef_cv (ads : List Nat) (c : Nat) : (cdef c).map (ccv ads) = (cdef c).map (ccv []) := by
  refine List.map_congr_left (fun v hv => ?_)
  obtain ⟨k, -, e⟩ := List.mem_map.mp hv
  rw [← e]
  split
  · rfl
  · split <;> rfl
theorem ct_new {n idx c pl : Nat} (hd : decode (ccode y) pc = .ok (.new idx, 3)) (hn : cclT[n]? = some (y, idx, c, pl)) (h3 : ns.length + 1 ≤ ns'.length) (h4 : csz ns + xnf c ≤ csz ns') (k : cEv D κ l d y MC MS sz ads0 (pc + 3) ls (.inr (.inr (some ns.length)) :: st) (ns ++ [.inl (c, cdef c)]) ns') : cEv D κ l d y MC MS sz ads0 pc ls st ns ns' := by
  intro p e s m args below meth c0 H locs la ads kc ks F hz ha hl v1 v2 v3 hP hD hS hla h1 h2
  obtain ⟨hc, hlw⟩ := ccl_at hn
  obtain ⟨-, -, -, -, -, hcn, hins, hini, -⟩ := cm_at hc
  obtain ⟨ty0, hty0⟩ := (xcl_ok c _ (xcl_at hc)).2.2
  have hlen : (cdef c).length = xnf c := by unfold cdef; rw [List.length_map, List.length_range]
  refine va_new (C := (xcl c).1) (T := (xcl c).2.1) (N := (xcl c).2.2) (ci := c) (fs := (cdef c).map (ccv [])) F.1 F.2.1 F.2.2.2.2.2.1 (fun w hw => List.mem_cons_of_mem _ ((xcl_ok c _ (xcl_at hc)).1 w hw)) ty0 hty0 F.2.2.2.2.1 (by rw [hcn]; exact F.wd hlw rfl) (by rw [hcn]; exact F.wd hins rfl) (by rw [hcn]; exact F.wd hini rfl) F.K hP hD hS (fun q hq => Or.inr (by rw [← hz]; exact hq)) (xcl_at hc) (fun j hj => ?_) (show kc + 1 ≤ MC by omega) (show ks + (xcl c).2.2 ≤ MS by rw [← xnf_eq hc]; omega) hd (fun q H1 hP1 hD1 hS1 => ?_)
  · have h5 := List.all_eq_true.mp cdef_ok c (List.mem_range.mpr hc)
    have h6 := List.all_eq_true.mp h5 j (List.mem_range.mpr (by rw [xnf_eq hc]; exact hj))
    simp only [decide_eq_true_eq] at h6
    rw [hty0 j hj] at h6
    exact Option.some.inj h6
  · obtain ⟨g1, g2, g3⟩ := cgrow (κ := κ) (q := q) (x := .inl (c, cdef c)) hl v3 (cdef_vd c)
    have e1 : cce κ (ads ++ [q]) (.inl (c, cdef c)) = .inr (c, (cdef c).map (ccv [])) := by
      show Sum.inr (c, (cdef c).map (ccv (ads ++ [q]))) = _
      rw [cdef_cv]
    rw [e1] at g3
    rw [← g3] at hP1 hD1
    have hb := k p e s m args below meth c0 H1 locs la (ads ++ [q]) (kc + 1) (ks + (xcl c).2.2) F hz (by obtain ⟨tl, e2⟩ := ha; exact ⟨tl ++ [q], by rw [e2, List.append_assoc]⟩) g1 (fun z hz => (v1 z hz).up (by simp)) (cvl.c (by show ns.length < _; simp) (fun z hz => (v2 z hz).up (by simp))) g2 hP1 hD1 hS1 (by rw [cup_ls hl v1]; exact hla) (by rw [List.length_append, List.length_singleton]; omega) (by rw [csz_app]; show ks + (xcl c).2.2 + csz ns' = MS + (csz ns + (cdef c).length); rw [hlen, xnf_eq hc]; omega)
    rw [List.map_cons, cnew_top hl, cup_st hl v2] at hb
    exact hb
end CEV
