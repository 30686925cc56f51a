/-! constructors: contracts, calls, the run -/
section CEV3
variable {D : va_G} {κ : Nat → ClassId} {l : Launch} {d y MC MS sz pc : Nat} {ads0 : List Nat} {ls : List (Nat × cV)} {st : List cV} {ns ns' : List cE}
def cC (D : va_G) (κ : Nat → ClassId) (l : Launch) (d y : Nat) (as : List cV) (ns ns' : List cE) : Prop :=
  ∀ (ads : List Nat) (sz MC MS : Nat), ads.length = ns.length → cvl ns.length as → cel ns.length ns → MC + ns.length = ns'.length → MS + csz ns = csz ns' →
    Met l (cname y) (cwords y) (croom d MC MS) (va_Pc (as.map (ccv ads)) (fun U => U.heap.size = sz ∧ va_P D vwCl (cws κ ads ns) U.heap ∧ va_K D vwCl (ctys κ) U ∧ va_D (fun _ => True) (cws κ ads ns) ∧ va_AO "BeanTrug$Rule" U ∧ va_AO "BeanTrug$Scene" U ∧ va_AO "BeanTrug$State" U)) (cQ D κ ads sz ns') MC MS (cA ads sz)
def cargs : Nat → List cV → List (Nat × cV)
  | _, [] => []
  | i, v :: vs => (i, v) :: cargs (if ccat v = 2 then i + 2 else i + 1) vs
theorem cargs_map {ads : List Nat} : ∀ (i : Nat) (as : List cV), (cargs i as).map (fun q => (q.1, ccv ads q.2)) = lv_args i (as.map (ccv ads))
  | _, [] => rfl
  | i, v :: vs => by
    show (i, ccv ads v) :: (cargs (if ccat v = 2 then i + 2 else i + 1) vs).map (fun q => (q.1, ccv ads q.2)) = (i, ccv ads v) :: lv_args (if (ccv ads v).category = 2 then i + 2 else i + 1) (vs.map (ccv ads))
    rw [cargs_map, ccv_cat]
theorem cargs_vq {n : Nat} : ∀ (i : Nat) (as : List cV), cvl n as → cvq n (cargs i as)
  | _, [], _ => fun q hq => by cases hq
  | i, v :: vs, hv => fun q hq => by
    rcases List.mem_cons.mp hq with e | e
    · rw [e]; exact hv.h
    · exact cargs_vq _ vs hv.t q e
theorem csl_len {ads : List Nat} : ∀ (as : List cV), (lg_sl (as.map (ccv ads))).length = (as.map ccat).sum
  | [] => rfl
  | v :: vs => by
    have ih := csl_len (ads := ads) vs
    unfold lg_sl at ih ⊢
    rw [List.map_cons, List.flatMap_cons, List.length_append, ih, ccv_cat, List.map_cons, List.sum_cons]
    rcases v with x | x | o <;> rfl
theorem cws_ads {ads : List Nat} {k : Nat} {q : Nat × va_E} (h : (cws κ ads ns)[k]? = some q) : q.1 ∈ ads := by
  unfold cws at h
  rw [List.getElem?_zipWith] at h
  cases ha : ads[k]? with
  | none => rw [ha] at h; cases h
  | some a =>
    cases hn : ns[k]? with
    | none => rw [ha, hn] at h; cases h
    | some x =>
      rw [ha, hn] at h
      rw [← Option.some.inj h]
      exact List.mem_of_getElem? ha
theorem cC_of {as : List cV} (hy : y < 13) (hsz : (as.map ccat).sum ≤ cmaxL y) (k : ∀ (ads0 : List Nat) (sz MC MS : Nat), cEv D κ l d y MC MS sz ads0 0 (cargs 0 as) [] ns ns') : cC D κ l d y as ns ns' := by
  intro ads sz MC MS hl hv hc h1 h2
  refine va_MetF (cc := ccode y) (maxL := cmaxL y) (ret := none) (cm_at hy).1 rfl ?_
  intro p e s m args below meth c s₁ B hml hv2
  obtain ⟨rfl, hz, hP, hK, hD, hAO⟩ := hv2
  have hnm : meth.name = "<init>" := ((name_of_methodNamed B.named B.method).1).trans (cm_at hy).2.2.1
  have F : cFr D κ y p s m (as.map (ccv ads)).toArray meth c := ⟨B.exec, B.bytes, B.returns, hml, by rw [← (cm_at hy).2.1]; exact findClass_of_methodNamed B.named, atoms_spec (ws := cwords y) B.pre, B.notSynchronized, hK, hnm, hy, hAO⟩
  have hla := lv_entry (as.map (ccv ads)) (n := cmaxL y) (by rw [csl_len]; exact hsz)
  rw [lg_entry_eq]
  rw [← cargs_map (ads := ads) 0 as] at hla
  exact k ads sz MC MS p e s m _ below meth c s.heap [] _ ads 0 0 F hz ⟨[], by simp⟩ hl (cargs_vq 0 as hv) (fun v hv => by cases hv) hc hP (hD.weaken (fun k q hk _ => Or.inl (cws_ads hk))) va_S.rf hla (by omega) (by omega)
theorem ccv_ext {ads tl : List Nat} {v : cV} (h : cvd ads.length v) : ccv (ads ++ tl) v = ccv ads v := by
  rcases v with x | x | _ | k
  · rfl
  · rfl
  · rfl
  · have h : k < ads.length := h
    show va_rf (some ((ads ++ tl).getD k 0)) = va_rf (some (ads.getD k 0))
    rw [List.getD_eq_getElem?_getD, List.getD_eq_getElem?_getD, List.getElem?_append_left h]
theorem cblind {as : List cV} {ads : List Nat} : FrameBlind (va_Pc (as.map (ccv ads)) (fun U => U.heap.size = sz ∧ va_P D vwCl (cws κ ads ns) U.heap ∧ va_K D vwCl (ctys κ) U ∧ va_D (fun _ => True) (cws κ ads ns) ∧ va_AO "BeanTrug$Rule" U ∧ va_AO "BeanTrug$Scene" U ∧ va_AO "BeanTrug$State" U)) :=
  fun a U gg mk q => ⟨q.1, q.2.1, q.2.2.1, va_K.moved (u := U) (U := U.calling gg mk a) (Vm.Alike.refl U.vm) q.2.2.2.1, q.2.2.2.2.1, va_AO.moved (u := U) (U := U.calling gg mk a) (Vm.Alike.refl U.vm) q.2.2.2.2.2.1, va_AO.moved (u := U) (U := U.calling gg mk a) (Vm.Alike.refl U.vm) q.2.2.2.2.2.2.1, va_AO.moved (u := U) (U := U.calling gg mk a) (Vm.Alike.refl U.vm) q.2.2.2.2.2.2.2⟩
def cnmh (y : Nat) : Bool := decide ((cname y).cls ≠ "java/lang/invoke/MethodHandle") && decide ((cname y).cls ≠ "java/lang/invoke/VarHandle")
theorem cnmh_ok : (List.range 13).all cnmh = true := by decide +kernel
theorem ct_ctor {n idx y2 pl q d2 : Nat} {as st0 : List cV} {ns2 : List cE} (hd : decode (ccode y) pc = .ok (.invokespecial idx, 3)) (hn : cilT[n]? = some (y, idx, y2 + 1, pl)) (hlen : as.length = cnarg y2) (hst : st0 = as.reverse ++ .inr (.inr (some q)) :: st) (hw : (st.map ccat).sum ≤ 8) (hdd : d2 + 1 ≤ d) (C : cC D κ l d2 y2 (.inr (.inr (some q)) :: as) ns ns2) (m1 : ns.length ≤ ns2.length ∧ csz ns ≤ csz ns2) (m2 : ns2.length ≤ ns'.length ∧ csz ns2 ≤ csz ns') (k : cEv D κ l d y MC MS sz ads0 (pc + 3) ls st ns2 ns') : cEv D κ l d y MC MS sz ads0 pc ls st0 ns ns' := by
  intro p e s m args below meth c0 H locs la ads kc ks F hz ha hl v1 v2 v3 hP hD hS hla h1 h2
  subst hst
  obtain ⟨hy2, hlw⟩ := cil_at hn
  rw [if_neg (by omega), Nat.add_sub_cancel] at hlw
  have hy2 : y2 < 13 := by omega
  obtain ⟨-, o1, o2, o3, o4, -, -, w1, w2⟩ := cm_at hy2
  have va : cvl ns.length (.inr (.inr (some q)) :: as) := cvl.c (v2 _ (List.mem_append_right _ List.mem_cons_self)) (fun x hx => v2 x (List.mem_append_left _ (List.mem_reverse.mpr hx)))
  have vst : cvl ns.length st := fun x hx => v2 x (List.mem_append_right _ (List.mem_cons_of_mem _ hx))
  have M := C ads H.size (ns2.length - ns.length) (csz ns2 - csz ns) hl va v3 (by omega) (by omega)
  have hni : (cname y2).cls ≠ "java/lang/invoke/MethodHandle" ∧ (cname y2).cls ≠ "java/lang/invoke/VarHandle" ∧ (parseMethodDescriptor (cname y2).desc).map (fun d => d.parameters.length) = some (cnarg y2) := by
    have h5 := List.all_eq_true.mp cnmh_ok y2 (List.mem_range.mpr hy2)
    simp only [cnmh, Bool.and_eq_true, decide_eq_true_eq] at h5
    exact ⟨h5.1, h5.2, o3⟩
  have esum : ((st.map (ccv ads)).map (fun v => v.category)).sum = (st.map ccat).sum := by
    congr 1
    rw [List.map_map]
    exact List.map_congr_left (fun v _ => ccv_cat ads v)
  have hrun := va_runI (own := xon y) (b := ads.getD q 0) (As := as.map (ccv ads)) (rest := st.map (ccv ads)) (H := H) (locs := locs) (cells := kc) (slots := ks) (e := e) (below := below) (meth := meth) (R := croom d MC MS) (g := F0 m pc la ((as.reverse ++ .inr (.inr (some q)) :: st).map (ccv ads))) ⟨F.1, F.2.1, F.2.2.2.1, F.2.2.2.2.1, F.2.2.2.2.2.1⟩ M ⟨callB_of (bytes := ccode y2) (maxL := cmaxL y2) (ret := none) (ws' := xtbl) (cnarg y2) F.2.2.2.2.2.1 (cwords_good (fun w hw => List.mem_cons_of_mem _ hw) hy2) rfl rfl rfl (by rw [o1]; exact F.wd w1 rfl) (F.wd hlw rfl) hni ⟨show d2 + 1 ≤ d from hdd, show 8 + (cmaxL y2 + 11) + 60 * d2 ≤ 60 * d by omega⟩, o2, F.wd w2 rfl⟩ ⟨cblind, fun U hU hW => ⟨rfl, by rw [hU], by rw [hU]; exact hP, va_K.moved hW.alike F.K, hD.weaken (fun _ _ _ _ => trivial), va_AO.moved hW.alike F.2.2.2.2.2.2.2.2.2.2.1, va_AO.moved hW.alike F.2.2.2.2.2.2.2.2.2.2.2.1, va_AO.moved hW.alike F.2.2.2.2.2.2.2.2.2.2.2.2⟩⟩ rfl (by rw [List.length_map]; exact hlen) hla.1 (by rw [List.map_append, List.map_reverse]; rfl) (lv_room (by rw [esum]; exact hw)) hd ⟨show kc + (ns2.length - ns.length) ≤ MC by omega, show ks + (csz ns2 - csz ns) ≤ MS by omega⟩
  intro T hT X
  obtain ⟨v, st₀, t, T', L, h0, X', hL, e1, e2, ⟨hv, ⟨ads2, ⟨tl, ea⟩, hl2, hP2, hD2, hc2⟩, hF2⟩, go⟩ := hrun T hT X
  have hv : v = none := by injection hv
  subst hv
  subst ea
  obtain ⟨hz2, hk⟩ := hF2
  rw [h0] at hz2 hk
  have sub : ∀ q, cA ads H.size q → cA ads0 sz q := by
    intro q hq
    rcases hq with hq | hq
    · obtain ⟨k, hk⟩ := List.getElem?_of_mem hq
      have hlt : k < ns.length := by rw [← hl]; exact (List.getElem?_eq_some_iff.mp hk).1
      have := hD.2 k _ (cws_at (κ := κ) hl (List.getElem?_eq_getElem hlt))
      rw [List.getD_eq_getElem?_getD, hk] at this
      exact this
    · exact Or.inr (by rw [← hz]; exact Nat.le_trans hS.1 hq)
  have hS1 : va_S (cA ads0 sz) s.heap T'.heap (locs ++ L) := ⟨Nat.le_trans hS.1 (by rw [e1]; exact hz2), fun q a1 a2 => by rw [e1, hk q (Nat.lt_of_lt_of_le a1 hS.1) (fun z => a2 (sub q z))]; exact hS.2.1 q a1 a2, fun q hq => by
      rcases List.mem_append.mp hq with h | h
      · exact hS.2.2 q h
      · exact sub _ (hL q h)⟩
  have els : ls.map (fun z => (z.1, ccv (ads ++ tl) z.2)) = ls.map (fun z => (z.1, ccv ads z.2)) := List.map_congr_left (fun z hz => by rw [ccv_ext (by rw [hl]; exact v1 z hz)])
  have est : st.map (ccv (ads ++ tl)) = st.map (ccv ads) := List.map_congr_left (fun z hz => by rw [ccv_ext (by rw [hl]; exact vst z hz)])
  obtain ⟨t2, a1, b1⟩ := k p e s m args below meth c0 T'.heap (locs ++ L) la (ads ++ tl) (kc + (ns2.length - ns.length)) (ks + (csz ns2 - csz ns)) F hz (by obtain ⟨tl0, e3⟩ := ha; exact ⟨tl0 ++ tl, by rw [e3, List.append_assoc]⟩) hl2 (fun z hz => (v1 z hz).up m1.1) (fun z hz => (vst z hz).up m1.1) hc2 (by rw [e1]; exact hP2) (hD2.weaken (fun _ z _ hz => sub _ hz)) hS1 (by rw [els]; exact hla) (by omega) (by omega) T' rfl X'
  rw [est] at a1
  exact ⟨t2, go t2 a1, b1⟩
end CEV3
