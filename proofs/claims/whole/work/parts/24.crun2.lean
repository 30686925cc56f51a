/-! a constructor's frame: rows of numbers and of references, fields, calls -/
section CEV2
variable {D : va_G} {κ : Nat → ClassId} {l : Launch} {d y MC MS sz pc : Nat} {ads0 : List Nat} {ls : List (Nat × cV)} {st : List cV} {ns ns' : List cE}
/-- what goes on behind a new cell -/
theorem ct_grown {p : Program} {e : Env} {s : State} {m : MethodId} {args : Array Value} {below : List Frame} {meth : Method} {c0 : Code} {H1 : Heap} {locs : List Loc} {la : Array Slot} {ads : List Nat} {kc ks q ln : Nat} {x : cE} {w : va_E}
    (k : cEv D κ l d y MC MS sz ads0 (pc + ln) ls (.inr (.inr (some ns.length)) :: st) (ns ++ [x]) ns') (F : cFr D κ y p s m args meth c0) (hz : s.heap.size = sz) (ha : ∃ tl, ads = ads0 ++ tl) (hl : ads.length = ns.length) (v1 : cvq ns.length ls) (v2 : cvl ns.length st) (v3 : cel ns.length ns) (hx : ced (ns.length + 1) x) (hw : cce κ (ads ++ [q]) x = w)
    (hP1 : va_P D vwCl (cws κ ads ns ++ [(q, w)]) H1) (hD1 : va_D (cA ads0 sz) (cws κ ads ns ++ [(q, w)])) (hS1 : va_S (cA ads0 sz) s.heap H1 locs) (hla : lv_has la (cmaxL y) (ls.map (fun q => (q.1, ccv ads q.2)))) (h1 : kc + ns'.length = MC + ns.length) (h2 : ks + csz ns' = MS + csz ns) :
    W p l e (croom d MC MS) s m args below meth c0 H1 locs (kc + 1) (ks + csz1 x) (MQ below (cQ D κ ads0 sz ns') args s MC MS (cA ads0 sz)) (F0 m (pc + ln) la (.ref q :: st.map (ccv ads))) := by
  obtain ⟨g1, g2, g3⟩ := cgrow (κ := κ) (q := q) (x := x) hl v3 hx
  rw [hw] at g3
  rw [← g3] at hP1 hD1
  have hb := k p e s m args below meth c0 H1 locs la (ads ++ [q]) (kc + 1) (ks + csz1 x) F hz (by obtain ⟨tl, e2⟩ := ha; exact ⟨tl ++ [q], by rw [e2, List.append_assoc]⟩) g1 (fun z hz => (v1 z hz).up (by simp)) (cvl.c (by show ns.length < _; simp) (fun z hz => (v2 z hz).up (by simp))) g2 hP1 hD1 hS1 (by rw [cup_ls hl v1]; exact hla) (by rw [List.length_append, List.length_singleton]; omega) (by rw [csz_app]; omega)
  rw [List.map_cons, cnew_top hl, cup_st hl v2] at hb
  exact hb
theorem cκ {s : State} {cA : ClassId} {ty : FieldType} {t : Nat} (hK : va_K D vwCl (ctys κ ++ [(cA, ty)]) s) (ht : (ctys κ)[t]? = some (κ t, ty)) (hl : t < 7) : cA = κ t := by
  have a1 := (hK.2 7 (cA, ty) (by rfl)).2
  have a2 := (hK.2 t (κ t, ty) (by rw [List.getElem?_append_left (show t < (ctys κ).length from hl)]; exact ht)).2
  cases ty with
  | object C =>
    obtain ⟨_, _, _, _, _, f1⟩ := a1
    obtain ⟨_, _, _, _, _, f2⟩ := a2
    exact Option.some.inj (f1.symm.trans f2)
  | _ => exact Option.some.inj (Eq.trans (Eq.symm a1) a2)
def catp : ArrayType → Option Nat
  | .int => some 0
  | .byte => some 1
  | .long => some 2
  | .boolean => some 3
  | _ => none
theorem ct_newa {at' : ArrayType} {t N : Nat} {n : Int32} (hd : decode (ccode y) pc = .ok (.newarray at', 2)) (ht : catp at' = some t) (hn : ¬ n < 0) (hN : n.toNatClampNeg = N) (hb : N ≤ 10000) (h3 : ns.length + 1 ≤ ns'.length) (h4 : csz ns + N ≤ csz ns') (k : cEv D κ l d y MC MS sz ads0 (pc + 2) ls (.inr (.inr (some ns.length)) :: st) (ns ++ [.inr (t, N, [])]) ns') : cEv D κ l d y MC MS sz ads0 pc ls (.inl n :: st) ns ns' := by
  intro p e s m args below meth c0 H locs la ads kc ks F hz ha hl v1 v2 v3 hP hD hS hla h1 h2
  have hA : ∀ q, s.heap.size ≤ q → cA ads0 sz q := fun q hq => Or.inr (by rw [← hz]; exact hq)
  have hx : ced (ns.length + 1) (.inr (t, N, [])) := fun k hk => by cases hk
  cases at' with
  | int =>
    obtain rfl : 0 = t := Option.some.inj ht
    refine va_newa (atype := .int) (ty := .int) (a0 := (N, .inl (fun _ => 0))) F.1 F.2.1 (F.wd cac0 rfl) rfl F.K hP hD hS hA (fun _ => rfl) hn hN (by show N * 4 ≤ _; omega) (show kc + 1 ≤ MC by omega) (show ks + N ≤ MS by omega) hd (fun q cA H1 hK1 hP1 hD1 hS1 => ?_)
    obtain rfl := cκ (t := 0) hK1 rfl (by decide)
    exact ct_grown k F hz ha hl v1 v2.t v3 hx rfl hP1 hD1 hS1 hla h1 h2
  | byte =>
    obtain rfl : 1 = t := Option.some.inj ht
    refine va_newa (atype := .byte) (ty := .byte) (a0 := (N, .inl (fun _ => 0))) F.1 F.2.1 (F.wd cac1 rfl) rfl F.K hP hD hS hA (fun _ => rfl) hn hN (by show N * 1 ≤ _; omega) (show kc + 1 ≤ MC by omega) (show ks + N ≤ MS by omega) hd (fun q cA H1 hK1 hP1 hD1 hS1 => ?_)
    obtain rfl := cκ (t := 1) hK1 rfl (by decide)
    exact ct_grown k F hz ha hl v1 v2.t v3 hx rfl hP1 hD1 hS1 hla h1 h2
  | long =>
    obtain rfl : 2 = t := Option.some.inj ht
    refine va_newa (atype := .long) (ty := .long) (a0 := (N, .inr (.inl (fun _ => 0)))) F.1 F.2.1 (F.wd cac2 rfl) rfl F.K hP hD hS hA (fun _ => rfl) hn hN (by show N * 8 ≤ _; omega) (show kc + 1 ≤ MC by omega) (show ks + N ≤ MS by omega) hd (fun q cA H1 hK1 hP1 hD1 hS1 => ?_)
    obtain rfl := cκ (t := 2) hK1 rfl (by decide)
    exact ct_grown k F hz ha hl v1 v2.t v3 hx rfl hP1 hD1 hS1 hla h1 h2
  | boolean =>
    obtain rfl : 3 = t := Option.some.inj ht
    refine va_newa (atype := .boolean) (ty := .boolean) (a0 := (N, .inl (fun _ => 0))) F.1 F.2.1 (F.wd cac3 rfl) rfl F.K hP hD hS hA (fun _ => rfl) hn hN (by show N * 1 ≤ _; omega) (show kc + 1 ≤ MC by omega) (show ks + N ≤ MS by omega) hd (fun q cA H1 hK1 hP1 hD1 hS1 => ?_)
    obtain rfl := cκ (t := 3) hK1 rfl (by decide)
    exact ct_grown k F hz ha hl v1 v2.t v3 hx rfl hP1 hD1 hS1 hla h1 h2
  | _ => cases ht
def cott : Nat → Option Nat
  | 2 => some 4
  | 4 => some 5
  | 6 => some 6
  | _ => none
theorem ct_newq {j idx c pl t N : Nat} {n : Int32} (hd : decode (ccode y) pc = .ok (.anewarray idx, 3)) (hj : cclT[j]? = some (y, idx, c, pl)) (ht : cott c = some t) (hn : ¬ n < 0) (hN : n.toNatClampNeg = N) (hb : N ≤ 10000) (h3 : ns.length + 1 ≤ ns'.length) (h4 : csz ns + N ≤ csz ns') (k : cEv D κ l d y MC MS sz ads0 (pc + 3) ls (.inr (.inr (some ns.length)) :: st) (ns ++ [.inr (t, N, [])]) ns') : cEv D κ l d y MC MS sz ads0 pc ls (.inl n :: st) ns ns' := by
  intro p e s m args below meth c0 H locs la ads kc ks F hz ha hl v1 v2 v3 hP hD hS hla h1 h2
  obtain ⟨hc, hlw⟩ := ccl_at hj
  have hA : ∀ q, s.heap.size ≤ q → cA ads0 sz q := fun q hq => Or.inr (by rw [← hz]; exact hq)
  have hx : ced (ns.length + 1) (.inr (t, N, [])) := fun k hk => by cases hk
  have key : ∀ (C : String), xon c = C → va_AO C s → (ctys κ)[t]? = some (κ t, .object C) → 4 ≤ t → t < 7 → W p l e (croom d MC MS) s m args below meth c0 H locs kc ks (MQ below (cQ D κ ads0 sz ns') args s MC MS (cA ads0 sz)) (F0 m pc la ((.inl n :: st : List cV).map (ccv ads))) := by
    intro C hC hw hty ht4 ht7
    refine va_newq (C := C) F.1 F.2.1 F.2.2.2.2.1 (by rw [← hC]; exact F.wd hlw rfl) hw F.K hP hD hS hA hn hN (by omega) (show kc + 1 ≤ MC by omega) (show ks + N ≤ MS by omega) hd (fun q cA H1 hK1 hP1 hD1 hS1 => ?_)
    obtain rfl := cκ (t := t) hK1 hty ht7
    refine ct_grown (ks := ks) k F hz ha hl v1 v2.t v3 hx ?_ hP1 hD1 hS1 hla h1 h2
    show Sum.inl (κ t, N, _) = Sum.inl (κ t, N, _)
    rw [if_neg (by omega), if_neg (by omega)]
    congr 7
  match c, ht with
  | 2, ht => obtain rfl : 4 = t := Option.some.inj ht; exact key "BeanTrug$Rule" (by decide +kernel) F.2.2.2.2.2.2.2.2.2.2.1 rfl (by decide) (by decide)
  | 4, ht => obtain rfl : 5 = t := Option.some.inj ht; exact key "BeanTrug$Scene" (by decide +kernel) F.2.2.2.2.2.2.2.2.2.2.2.1 rfl (by decide) (by decide)
  | 6, ht => obtain rfl : 6 = t := Option.some.inj ht; exact key "BeanTrug$State" (by decide +kernel) F.2.2.2.2.2.2.2.2.2.2.2.2 rfl (by decide) (by decide)
theorem ccv_ref {ads : List Nat} {k : Nat} : ccv ads (.inr (.inr (some k))) = .ref (ads.getD k 0) := rfl
theorem cset_el {n k : Nat} {x : cE} (v3 : cel n ns) (hx : ced n x) : cel n (ns.set k x) := fun z hz => by
  rcases List.mem_or_eq_of_mem_set hz with h | h
  · exact v3 z h
  · rw [h]; exact hx
theorem csz_set {k : Nat} {x x0 : cE} (hk : ns[k]? = some x0) (he : csz1 x = csz1 x0) : csz (ns.set k x) = csz ns := by
  unfold csz
  congr 1
  apply List.ext_getElem?
  intro j
  by_cases hj : j = k
  · subst hj
    rw [List.getElem?_map, List.getElem?_map, List.getElem?_set_self (List.getElem?_eq_some_iff.mp hk).1, hk]
    exact congrArg some he
  · rw [List.getElem?_map, List.getElem?_map, List.getElem?_set_ne (Ne.symm hj)]
theorem ct_get {n idx c k pl q : Nat} {fs : List cV} {v : cV} (hd : decode (ccode y) pc = .ok (.getfield idx, 3)) (hn : xflT[n]? = some (y, idx, c, k, pl)) (hq : ns[q]? = some (.inl (c, fs))) (hv : fs[k]? = some v) (kk : cEv D κ l d y MC MS sz ads0 (pc + 3) ls (v :: st) ns ns') : cEv D κ l d y MC MS sz ads0 pc ls (.inr (.inr (some q)) :: st) ns ns' := by
  intro p e s m args below meth c0 H locs la ads kc ks F hz ha hl v1 v2 v3 hP hD hS hla h1 h2
  obtain ⟨hc, hk, hlw⟩ := xfl_at hn
  refine va_get (C := (xcl c).1) (T := (xcl c).2.1) (N := (xcl c).2.2) (ref := ((xcl c).2.1 k).1) F.1 F.2.1 F.2.2.2.2.2.1 (fun w hw => List.mem_cons_of_mem _ ((xcl_ok c _ (xcl_at hc)).1 w hw)) F.2.2.2.2.1 F.K hP q (cws_at hl hq) (xcl_at hc) k hk (F.wd hlw rfl) (fun _ h9 => h9) (v := ccv ads v) (by rw [List.getElem?_map, hv]; rfl) hd (kk p e s m args below meth c0 H locs la ads kc ks F hz ha hl v1 (cvl.c (v3 _ (List.mem_of_getElem? hq) v (List.mem_of_getElem? hv)) v2.t) v3 hP hD hS hla h1 h2)
/-- a value that a field of this descriptor takes as it is -/
def cfit (ty : FieldType) (v : cV) : Bool := match ty, v with
  | .int, .inl _ => true
  | .array _, .inr (.inr (some _)) => true
  | .object _, .inr (.inr (some _)) => true
  | _, _ => false
theorem cfit_ok {ty : FieldType} {v : cV} (h : cfit ty v = true) (ads : List Nat) : narrow ty (ccv ads v) = ccv ads v ∧ fits ty (ccv ads v) = true := by
  unfold cfit at h
  split at h
  · exact ⟨rfl, rfl⟩
  · exact ⟨rfl, rfl⟩
  · exact ⟨rfl, rfl⟩
  · cases h
def cownOk (c : Nat) : Bool := (List.range (xnf c)).all (fun k => decide (((xcl c).2.1 k).1 = xon c))
set_option maxRecDepth 100000 in
theorem cown_ok : (List.range 13).all cownOk = true := by decide +kernel
theorem ct_put {n idx c k pl q : Nat} {fs : List cV} {v : cV} {ty : FieldType} (hd : decode (ccode y) pc = .ok (.putfield idx, 3)) (hn : xflT[n]? = some (y, idx, c, k, pl)) (hcy : c = y) (hq : ns[q]? = some (.inl (c, fs))) (hkl : k < fs.length) (hty : parseFieldDescriptor ((xcl c).2.1 k).2.2.1 = some ty) (hfit : cfit ty v = true) (kk : cEv D κ l d y MC MS sz ads0 (pc + 3) ls st (ns.set q (.inl (c, fs.set k v))) ns') : cEv D κ l d y MC MS sz ads0 pc ls (v :: .inr (.inr (some q)) :: st) ns ns' := by
  intro p e s m args below meth c0 H locs la ads kc ks F hz ha hl v1 v2 v3 hP hD hS hla h1 h2
  obtain ⟨hc, hk, hlw⟩ := xfl_at hn
  obtain ⟨ty0, hty0⟩ := (xcl_ok c _ (xcl_at hc)).2.2
  have hced : ced ns.length (.inl (c, fs.set k v)) := fun z hz2 => by
    rcases List.mem_or_eq_of_mem_set hz2 with h | h
    · exact v3 _ (List.mem_of_getElem? hq) z h
    · rw [h]; exact v2.h
  have fin : ∀ (H1 : Heap) (locs1 : List Loc), va_P D vwCl ((cws κ ads ns).set q (ads.getD q 0, .inr (c, (fs.map (ccv ads)).set k (ccv ads v)))) H1 → va_D (cA ads0 sz) ((cws κ ads ns).set q (ads.getD q 0, .inr (c, (fs.map (ccv ads)).set k (ccv ads v)))) → va_S (cA ads0 sz) s.heap H1 locs1 → W p l e (croom d MC MS) s m args below meth c0 H1 locs1 kc ks (MQ below (cQ D κ ads0 sz ns') args s MC MS (cA ads0 sz)) (F0 m (pc + 3) la (st.map (ccv ads))) := by
    intro H1 locs1 hP1 hD1 hS1
    rw [← List.map_set] at hP1 hD1
    have e1 := cws_set (κ := κ) (e := .inl (c, fs.set k v)) hl hq
    rw [show cce κ ads (.inl (c, fs.set k v)) = .inr (c, (fs.set k v).map (ccv ads)) from rfl] at e1
    rw [e1] at hP1 hD1
    exact kk p e s m args below meth c0 H1 locs1 la ads kc ks F hz ha (by rw [List.length_set]; exact hl) (by rw [List.length_set]; exact v1) (by rw [List.length_set]; exact v2.t.t) (by rw [List.length_set]; exact cset_el v3 hced) hP1 hD1 hS1 hla (by rw [List.length_set]; exact h1) (by rw [csz_set hq (by show (fs.set k v).length = fs.length; rw [List.length_set])]; exact h2)
  cases hfin : ((xcl c).2.1 k).2.2.2 with
  | false => exact va_put (C := (xcl c).1) (T := (xcl c).2.1) (N := (xcl c).2.2) (ref := ((xcl c).2.1 k).1) (v := ccv ads v) F.1 F.2.1 F.2.2.2.2.2.1 (fun w hw => List.mem_cons_of_mem _ ((xcl_ok c _ (xcl_at hc)).1 w hw)) ty0 hty0 (xcl_ok c _ (xcl_at hc)).2.1 F.2.2.2.2.1 F.K hP hD hS q (cws_at hl hq) (xcl_at hc) k hk (F.wd hlw rfl) (fun _ h9 => h9) hfin hty (cfit_ok hfit ads).1 (cfit_ok hfit ads).2 (by rw [List.length_map]; exact hkl) hd fin
  | true =>
    have hdecl : ((xcl c).2.1 k).1 = xon y := by
      have h5 := List.all_eq_true.mp cown_ok c (List.mem_range.mpr hc)
      have h6 := List.all_eq_true.mp h5 k (List.mem_range.mpr (by rw [xnf_eq hc]; exact hk))
      simp only [decide_eq_true_eq] at h6
      rw [h6, hcy]
    exact va_putF (C := (xcl c).1) (T := (xcl c).2.1) (N := (xcl c).2.2) (ref := ((xcl c).2.1 k).1) (v := ccv ads v) F.1 F.2.1 F.2.2.2.2.2.1 (fun w hw => List.mem_cons_of_mem _ ((xcl_ok c _ (xcl_at hc)).1 w hw)) ty0 hty0 (xcl_ok c _ (xcl_at hc)).2.1 F.2.2.2.2.1 F.K hP hD hS q (cws_at hl hq) (xcl_at hc) k hk (F.wd hlw rfl) (fun _ h9 => h9) hfin F.2.2.2.2.2.2.2.2.1 hdecl hty (cfit_ok hfit ads).1 (cfit_ok hfit ads).2 (by rw [List.length_map]; exact hkl) hd fin
def cset (rs : List (Option Nat)) (i : Nat) (v : Nat) : List (Option Nat) := if i < rs.length then rs.set i (some v) else rs ++ (List.replicate (i - rs.length) none ++ [some v])
theorem cset_at {rs : List (Option Nat)} {i v j : Nat} : (cset rs i v).getD j none = if j = i then some v else rs.getD j none := by
  unfold cset
  rw [List.getD_eq_getElem?_getD, List.getD_eq_getElem?_getD]
  by_cases h : i < rs.length
  · rw [if_pos h]
    by_cases hj : j = i
    · subst hj
      rw [if_pos rfl, List.getElem?_set_self h]
      rfl
    · rw [if_neg hj, List.getElem?_set_ne (Ne.symm hj)]
  · rw [if_neg h]
    by_cases hj : j = i
    · subst hj
      rw [if_pos rfl, List.getElem?_append_right (by omega), List.getElem?_append_right (by simp), List.length_replicate, Nat.sub_self]
      rfl
    · rw [if_neg hj]
      by_cases hj2 : j < rs.length
      · rw [List.getElem?_append_left hj2]
      · rw [List.getElem?_append_right (by omega), List.getElem?_eq_none (l := rs) (by omega)]
        by_cases hj3 : j < i
        · rw [List.getElem?_append_left (by rw [List.length_replicate]; omega), List.getElem?_replicate, if_pos (by omega)]
          rfl
        · rw [List.getElem?_eq_none (by simp; omega)]
theorem cset_mem {rs : List (Option Nat)} {i v k : Nat} (h : some k ∈ cset rs i v) : k = v ∨ some k ∈ rs := by
  unfold cset at h
  split at h
  · rcases List.mem_or_eq_of_mem_set h with h | h
    · exact Or.inr h
    · exact Or.inl (Option.some.inj h)
  · rcases List.mem_append.mp h with h | h
    · exact Or.inr h
    · rcases List.mem_append.mp h with h | h
      · exact absurd (List.eq_of_mem_replicate h) (by simp)
      · exact Or.inl (Option.some.inj (List.mem_singleton.mp h))
theorem ct_aast {q qv c t n : Nat} {i : Int32} {fs : List cV} {rs : List (Option Nat)} (hd : decode (ccode y) pc = .ok (.aastore, 1)) (hq : ns[q]? = some (.inr (t, n, rs))) (hqv : ns[qv]? = some (.inl (c, fs))) (ht : cott c = some t) (hin : vp_in i n) (kk : cEv D κ l d y MC MS sz ads0 (pc + 1) ls st (ns.set q (.inr (t, n, cset rs i.toNatClampNeg qv))) ns') : cEv D κ l d y MC MS sz ads0 pc ls (.inr (.inr (some qv)) :: .inl i :: .inr (.inr (some q)) :: st) ns ns' := by
  intro p e s m args below meth c0 H locs la ads kc ks F hz ha hl v1 v2 v3 hP hD hS hla h1 h2
  have key : ∀ (C : String), (xcl c).1 = C → (ctys κ)[t]? = some (κ t, .object C) → c < 13 → 4 ≤ t → W p l e (croom d MC MS) s m args below meth c0 H locs kc ks (MQ below (cQ D κ ads0 sz ns') args s MC MS (cA ads0 sz)) (F0 m pc la ((.inr (.inr (some qv)) :: .inl i :: .inr (.inr (some q)) :: st : List cV).map (ccv ads))) := by
    intro C hC hty hc ht4
    have haq := cws_at (κ := κ) hl hq
    have e0 : ∀ rs', cce κ ads (.inr (t, n, rs')) = .inl (κ t, n, .inr (.inr (.inr (.inr (ccr ads rs'))))) := by
      intro rs'
      show Sum.inl (κ t, n, _) = _
      rw [if_neg (by omega), if_neg (by omega)]
    rw [e0] at haq
    refine va_astq F.1 F.2.1 F.K hP hD hS q t qv c haq (by rw [hC]; exact hty) (cws_at hl hqv) (xcl_at hc) hin hd (fun H1 locs1 hP1 hD1 hS1 => ?_)
    have e2 : va_up (ccr ads rs) i.toNatClampNeg (some (ads.getD qv 0)) = ccr ads (cset rs i.toNatClampNeg qv) := by
      funext j
      unfold va_up ccr
      rw [cset_at]
      by_cases hj : j = i.toNatClampNeg
      · rw [if_pos hj, if_pos hj]; rfl
      · rw [if_neg hj, if_neg hj]
    rw [e2, ← e0] at hP1 hD1
    rw [cws_set hl hq] at hP1 hD1
    have hced : ced ns.length (.inr (t, n, cset rs i.toNatClampNeg qv)) := fun z hz2 => by
      rcases cset_mem hz2 with h | h
      · rw [h]; exact v2.h
      · exact v3 _ (List.mem_of_getElem? hq) z h
    exact kk p e s m args below meth c0 H1 locs1 la ads kc ks F hz ha (by rw [List.length_set]; exact hl) (by rw [List.length_set]; exact v1) (by rw [List.length_set]; exact v2.t.t.t) (by rw [List.length_set]; exact cset_el v3 hced) hP1 hD1 hS1 hla (by rw [List.length_set]; exact h1) (by rw [csz_set (x := .inr (t, n, cset rs i.toNatClampNeg qv)) hq rfl]; exact h2)
  match c, ht with
  | 2, ht => obtain rfl : 4 = t := Option.some.inj ht; exact key "BeanTrug$Rule" (by decide +kernel) rfl (by decide) (by decide)
  | 4, ht => obtain rfl : 5 = t := Option.some.inj ht; exact key "BeanTrug$Scene" (by decide +kernel) rfl (by decide) (by decide)
  | 6, ht => obtain rfl : 6 = t := Option.some.inj ht; exact key "BeanTrug$State" (by decide +kernel) rfl (by decide) (by decide)
theorem cil_at {n o idx k pl : Nat} (hn : cilT[n]? = some (o, idx, k, pl)) : k < 14 ∧ Cond.methodLink (xon o) idx (if k = 0 then objectInit else cname (k - 1)) ∈ lw_tbl := by
  have h := xmem_all cil_ok hn
  simp only [cilOk, Bool.and_eq_true, decide_eq_true_eq] at h
  exact ⟨h.1, List.mem_of_getElem? h.2⟩
theorem ct_obj {n idx pl q : Nat} (hd : decode (ccode y) pc = .ok (.invokespecial idx, 3)) (hn : cilT[n]? = some (y, idx, 0, pl)) (hdd : 1 ≤ d) (hw : (st.map ccat).sum ≤ 8) (kk : cEv D κ l d y MC MS sz ads0 (pc + 3) ls st ns ns') : cEv D κ l d y MC MS sz ads0 pc ls (.inr (.inr (some q)) :: st) ns ns' := by
  intro p e s m args below meth c0 H locs la ads kc ks F hz ha hl v1 v2 v3 hP hD hS hla h1 h2
  obtain ⟨-, hlw⟩ := cil_at hn
  rw [if_pos rfl] at hlw
  refine W.objInit F.1 F.2.1 F.2.2.2.2.1 (F.wd hlw rfl) (F.wd cobj.1 rfl) (F.wd cobj.2 rfl) rfl (hla.1.trans F.2.2.2.1.symm) rfl hd (show 1 ≤ d from hdd) ?_ (W.eq (g2 := F0 m (pc + 3) la (st.map (ccv ads))) rfl (kk p e s m args below meth c0 H locs la ads kc ks F hz ha hl v1 v2.t v3 hP hD hS hla h1 h2))
  have e1 : ((st.map (ccv ads)).map (fun v => v.category)).sum = (st.map ccat).sum := by
    congr 1
    rw [List.map_map]
    exact List.map_congr_left (fun v _ => ccv_cat ads v)
  have e2 := lv_room (m := m) (pc := pc) (ls := la) (rest := (.inr (.inr (some q)) :: st : List cV).map (ccv ads)) (st := st.map (ccv ads)) (by rw [e1]; exact hw)
  show _ + 12 ≤ 60 * d
  omega
end CEV2
