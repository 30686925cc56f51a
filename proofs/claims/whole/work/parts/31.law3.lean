/-! THE LAW FROM ITS ENTRY, over an invariant -/
theorem cB_ctor {D : va_G} {κ : Nat → ClassId} {l : Launch} {nb : List cE} (h : cB = some nb) : cC D κ l 8 11 [.inr (.inr (some 0))] [(Sum.inl (11, cdef 11) : cE)] nb ∧ 1 ≤ nb.length ∧ csz [(Sum.inl (11, cdef 11) : cE)] ≤ csz nb := by
  obtain ⟨h1, h2⟩ := crun_ok _ _ _ _ _ _ _ _ h
  exact ⟨cC_of (by decide) (by decide +kernel) (fun ads0 sz MC MS => h2 D κ l ads0 sz MC MS), h1.1, h1.2⟩
theorem cM_ctor {D : va_G} {κ : Nat → ClassId} {l : Launch} {nb nf : List cE} (h : cM nb = some nf) : cC D κ l 8 12 [.inr (.inr (some nb.length))] (nb ++ [(Sum.inl (12, cdef 12) : cE)]) nf ∧ (nb ++ [(Sum.inl (12, cdef 12) : cE)]).length ≤ nf.length ∧ csz (nb ++ [(Sum.inl (12, cdef 12) : cE)]) ≤ csz nf := by
  obtain ⟨h1, h2⟩ := crun_ok _ _ _ _ _ _ _ _ h
  exact ⟨cC_of (by decide) (show 1 ≤ cmaxL 12 by decide +kernel) (fun ads0 sz MC MS => h2 D κ l ads0 sz MC MS), h1.1, h1.2⟩
theorem cdef_el (c : Nat) : cel 1 [(Sum.inl (c, cdef c) : cE)] := fun z hz => by
  rw [List.mem_singleton.mp hz]
  exact cdef_vd c
theorem cl_law : Cond.classLink R_law 7 "BeanTrug" ∈ lw_tbl ∧ Cond.classLink R_law 10 "BeanTrugModel" ∈ lw_tbl := ⟨xt1 (List.mem_of_getElem? (i := 21) rfl), xt5 (List.mem_of_getElem? (i := 158) rfl)⟩
theorem ci_law : Cond.methodLink R_law 9 (cname 11) ∈ lw_tbl ∧ Cond.methodLink R_law 12 (cname 12) ∈ lw_tbl := ⟨xt1 (List.mem_of_getElem? (i := 23) rfl), xt5 (List.mem_of_getElem? (i := 160) rfl)⟩
/-- a constructor's call by the law -/
theorem lc_ctor {p : Program} {l : Launch} {e : Env} {s : State} {m : MethodId} {below : List Frame} {meth : Method} {c : Code} {b L pc idx y2 q kc ks : Nat} {xs : Nat → Int32} {D : va_G} {κ : Nat → ClassId} {H : Heap} {locs : List Loc} {la : Array Slot} {rest : List Value} {ads : List Nat} {ns ns2 : List cE} {Q : State → Prop} (C0 : lw_At p s m meth c b L xs) (hy2 : y2 < 13) (hna : cnarg y2 = 0) (hd : decode code pc = .ok (.invokespecial idx, 3)) (hlk : Cond.methodLink R_law idx (cname y2) ∈ lw_tbl) (hK : va_K D vwCl (ctys κ) s) (hAO : va_AO "BeanTrug$Rule" s ∧ va_AO "BeanTrug$Scene" s ∧ va_AO "BeanTrug$State" s)
    (C : cC D κ l 8 y2 [.inr (.inr (some q))] ns ns2) (m1 : ns.length ≤ ns2.length ∧ csz ns ≤ csz ns2) (hl : ads.length = ns.length) (hq : q < ns.length) (v3 : cel ns.length ns) (hP : va_P D vwCl (cws κ ads ns) H) (hD : va_D (fun q => s.heap.size ≤ q) (cws κ ads ns)) (hS : va_S (fun q => s.heap.size ≤ q) s.heap H locs) (hsz : la.size = 4) (hw : (rest.map fun v => v.category).sum ≤ 8) (hr : kc + (ns2.length - ns.length) ≤ 600000 ∧ ks + (csz ns2 - csz ns) ≤ 7302250)
    (k : ∀ (H1 : Heap) (locs1 : List Loc) (tl : List Nat), (ads ++ tl).length = ns2.length → va_P D vwCl (cws κ (ads ++ tl) ns2) H1 → va_D (fun q => s.heap.size ≤ q) (cws κ (ads ++ tl) ns2) → cel ns2.length ns2 → va_S (fun q => s.heap.size ≤ q) s.heap H1 locs1 → W p l e room_1 s m #[Value.ref b] below meth c H1 locs1 (kc + (ns2.length - ns.length)) (ks + (csz ns2 - csz ns)) Q (F0 m (pc + 3) la rest)) :
    W p l e room_1 s m #[Value.ref b] below meth c H locs kc ks Q (F0 m pc la (.ref (ads.getD q 0) :: rest)) := by
  obtain ⟨hx, hb, hrt, hml, hown, hts, hX, hbl, hlocks, hgv⟩ := id C0
  obtain ⟨-, o1, o2, o3, o4, -, -, w1, w2⟩ := cm_at hy2
  have hni : (cname y2).cls ≠ "java/lang/invoke/MethodHandle" ∧ (cname y2).cls ≠ "java/lang/invoke/VarHandle" ∧ (parseMethodDescriptor (cname y2).desc).map (fun d => d.parameters.length) = some 0 := by
    have h5 := List.all_eq_true.mp cnmh_ok y2 (List.mem_range.mpr hy2)
    simp only [cnmh, Bool.and_eq_true, decide_eq_true_eq] at h5
    exact ⟨h5.1, h5.2, by rw [o3, hna]⟩
  have M := C ads H.size (ns2.length - ns.length) (csz ns2 - csz ns) hl (cvl.c hq (fun _ h => by cases h)) v3 (by omega) (by omega)
  intro T hT X
  obtain ⟨v, st₀, t, T', Lc, h0, X', hLc, e1, e2, ⟨hv, ⟨ads2, ⟨tl, ea⟩, hl2, hP2, hD2, hc2⟩, hF2⟩, go⟩ := va_runI (own := R_law) (b := ads.getD q 0) (As := []) (rest := rest) (H := H) (locs := locs) (cells := kc) (slots := ks) (e := e) (below := below) (meth := meth) (R := room_1) (g := F0 m pc la (.ref (ads.getD q 0) :: rest)) ⟨hx, hb, hml, hown, hts⟩ M ⟨callB_of (bytes := ccode y2) (maxL := cmaxL y2) (ret := none) (ws' := xtbl) 0 hts (cwords_good (fun w hw => xtbl_lw hw) hy2) rfl rfl rfl (by rw [o1]; exact hts _ w1) (hts _ hlk) hni ⟨show 8 + 1 ≤ 2048 by decide, show 8 + (cmaxL y2 + 11) + 60 * 8 ≤ 84000 by omega⟩, o2, hts _ w2⟩ ⟨cblind, fun U hU hW => ⟨rfl, by rw [hU], by rw [hU]; exact hP, va_K.moved hW.alike hK, hD.weaken (fun _ _ _ _ => trivial), va_AO.moved hW.alike hAO.1, va_AO.moved hW.alike hAO.2.1, va_AO.moved hW.alike hAO.2.2⟩⟩ rfl rfl hsz rfl (lv_room hw) hd ⟨hr.1, hr.2⟩ T hT X
  have hv : v = none := by injection hv
  subst hv
  subst ea
  obtain ⟨hz2, hk⟩ := hF2
  rw [h0] at hz2 hk
  have sub : ∀ q, cA ads H.size q → s.heap.size ≤ q := by
    intro q hq
    rcases hq with hq | hq
    · obtain ⟨k, hk⟩ := List.getElem?_of_mem hq
      have hlt : k < ns.length := by rw [← hl]; exact (List.getElem?_eq_some_iff.mp hk).1
      have := hD.2 k _ (cws_at (κ := κ) hl (List.getElem?_eq_getElem hlt))
      rw [List.getD_eq_getElem?_getD, hk] at this
      exact this
    · exact Nat.le_trans hS.1 hq
  have hS1 : va_S (fun q => s.heap.size ≤ q) s.heap T'.heap (locs ++ Lc) := ⟨Nat.le_trans hS.1 (by rw [e1]; exact hz2), fun q a1 a2 => by rw [e1, hk q (Nat.lt_of_lt_of_le a1 hS.1) (fun z => a2 (sub q z))]; exact hS.2.1 q a1 a2, fun q hq => by
      rcases List.mem_append.mp hq with h | h
      · exact hS.2.2 q h
      · exact sub _ (hLc q h)⟩
  obtain ⟨t2, a1, b1⟩ := k T'.heap (locs ++ Lc) tl hl2 (by rw [e1]; exact hP2) (hD2.weaken (fun _ z _ hz => sub _ hz)) hc2 hS1 T' rfl X'
  exact ⟨t2, go t2 a1, b1⟩
/-- a new object by the law -/
theorem lc_new {p : Program} {l : Launch} {e : Env} {s : State} {m : MethodId} {below : List Frame} {meth : Method} {c0 : Code} {b L pc idx c kc ks : Nat} {xs : Nat → Int32} {D : va_G} {κ : Nat → ClassId} {H : Heap} {locs : List Loc} {la : Array Slot} {rest : List Value} {ads : List Nat} {ns : List cE} {Q : State → Prop} (C0 : lw_At p s m meth c0 b L xs) (hc : c < 13) (hd : decode code pc = .ok (.new idx, 3)) (hlk : Cond.classLink R_law idx (xon c) ∈ lw_tbl) (hK : va_K D vwCl (ctys κ) s) (hl : ads.length = ns.length) (v3 : cel ns.length ns) (hP : va_P D vwCl (cws κ ads ns) H) (hD : va_D (fun q => s.heap.size ≤ q) (cws κ ads ns)) (hS : va_S (fun q => s.heap.size ≤ q) s.heap H locs) (hr : kc + 1 ≤ 600000 ∧ ks + xnf c ≤ 7302250)
    (k : ∀ (q : Nat) (H1 : Heap), (ads ++ [q]).length = (ns ++ [(Sum.inl (c, cdef c) : cE)]).length → cel (ns ++ [(Sum.inl (c, cdef c) : cE)]).length (ns ++ [(Sum.inl (c, cdef c) : cE)]) → va_P D vwCl (cws κ (ads ++ [q]) (ns ++ [(Sum.inl (c, cdef c) : cE)])) H1 → va_D (fun q => s.heap.size ≤ q) (cws κ (ads ++ [q]) (ns ++ [(Sum.inl (c, cdef c) : cE)])) → va_S (fun q => s.heap.size ≤ q) s.heap H1 locs → W p l e room_1 s m #[Value.ref b] below meth c0 H1 locs (kc + 1) (ks + xnf c) Q (F0 m (pc + 3) la (.ref q :: rest))) :
    W p l e room_1 s m #[Value.ref b] below meth c0 H locs kc ks Q (F0 m pc la rest) := by
  obtain ⟨hx, hb, hrt, hml, hown, hts, hX, hbl, hlocks, hgv⟩ := id C0
  obtain ⟨-, -, -, -, -, hcn, hins, hini, -⟩ := cm_at hc
  obtain ⟨ty0, hty0⟩ := (xcl_ok c _ (xcl_at hc)).2.2
  refine va_new (C := (xcl c).1) (T := (xcl c).2.1) (N := (xcl c).2.2) (ci := c) (fs := (cdef c).map (ccv [])) hx hb hts (fun w hw => xtbl_lw ((xcl_ok c _ (xcl_at hc)).1 w hw)) ty0 hty0 hown (by rw [hcn]; exact hts _ hlk) (by rw [hcn]; exact hts _ hins) (by rw [hcn]; exact hts _ hini) hK hP hD hS (fun _ h => h) (xcl_at hc) (fun j hj => ?_) hr.1 (by rw [← xnf_eq hc]; exact hr.2) hd (fun q H1 hP1 hD1 hS1 => ?_)
  · have h5 := List.all_eq_true.mp cdef_ok c (List.mem_range.mpr hc)
    have h6 := List.all_eq_true.mp h5 j (List.mem_range.mpr (by rw [xnf_eq hc]; exact hj))
    simp only [decide_eq_true_eq] at h6
    rw [hty0 j hj] at h6
    exact Option.some.inj h6
  · obtain ⟨g1, g2, g3⟩ := cgrow (κ := κ) (q := q) (x := .inl (c, cdef c)) hl v3 (cdef_vd c)
    have e1 : cce κ (ads ++ [q]) (.inl (c, cdef c)) = .inr (c, (cdef c).map (ccv [])) := by
      show Sum.inr (c, (cdef c).map (ccv (ads ++ [q]))) = _
      rw [cdef_cv]
    rw [e1] at g3
    rw [← g3] at hP1 hD1
    rw [← xnf_eq hc]
    exact k q H1 g1 g2 hP1 hD1 hS1
set_option maxHeartbeats 4000000 in
set_option maxRecDepth 100000 in
theorem whole_start_open {I : xH → Prop} (HI : lInv I) {p : Program} {e : Env} {s : State} {m : MethodId} {below : List Frame} {meth : Method} {c : Code} (l : Launch) {b L : Nat} {xs : Nat → Int32} (hL : L ≤ 3072) (C0 : lw_At p s m meth c b L xs) : W p l e room_1 s m #[Value.ref b] below meth c s.heap [] 0 0 (lw_Z below #[Value.ref b] s) (entryFrame m ([Value.ref b] : List Value).toArray 4) := by
  obtain ⟨hx, hb, hr, hml, hown, hts, hX, hbl, hlocks, hgv⟩ := id C0
  obtain ⟨D, κ, hK, hAO⟩ := lw_K hts
  obtain ⟨nb, nf, eB, eM, n1, n2, n3, n4, hck⟩ := cin_at
  obtain ⟨cb1, cb2, cb3⟩ := cB_ctor (D := D) (κ := κ) (l := l) eB
  obtain ⟨cm1, cm2, cm3⟩ := cM_ctor (D := D) (κ := κ) (l := l) eM
  have z11 : csz [(Sum.inl (11, cdef 11) : cE)] = 14 := by decide +kernel
  have x11 : xnf 11 = 14 := by decide +kernel
  have x12 : xnf 12 = 41 := by decide +kernel
  have z12 : csz (nb ++ [(Sum.inl (12, cdef 12) : cE)]) = csz nb + 41 := by rw [csz_app]; congr 1
  have l12 : (nb ++ [(.inl (12, cdef 12) : cE)]).length = nb.length + 1 := by rw [List.length_append]; rfl
  have hl := lv_entry ([.ref b]) (n := 4) (Nat.le_of_ble_eq_true rfl)
  rw [lg_entry_eq]
  generalize (lg_sl ([.ref b]) ++ List.replicate (4 - (lg_sl ([.ref b])).length) Slot.unset).toArray = ls at hl ⊢
  have hl : lv_has ls 4 [(0, .ref b)] := hl
  refine lc_new (c := 11) (ads := []) (ns := []) C0 (by decide) dL_0 (by rw [show xon 11 = "BeanTrug" by decide +kernel]; exact cl_law.1) hK rfl (fun _ h => by cases h) (fun k q h => by simp [cws] at h) ⟨fun i j p q h => by simp [cws] at h, fun k q h => by simp [cws] at h⟩ va_S.rf ⟨by decide, by rw [x11]; decide⟩ (fun q H1 g1 g2 hP hD hS => ?_)
  rw [x11]
  refine lv_dup hx hb dL_3 rfl ?_
  refine lc_ctor (y2 := 11) (q := 0) (ads := [q]) (ns := [(Sum.inl (11, cdef 11) : cE)]) (ns2 := nb) C0 (by decide) (by decide +kernel) dL_4 ci_law.1 hK hAO cb1 ⟨cb2, cb3⟩ rfl (by decide) (cdef_el 11) hP hD hS hl.1 (Nat.le_of_ble_eq_true rfl) ⟨by rw [n1]; decide, by rw [n3, z11]; decide⟩ (fun H2 locs2 tl g3 hP hD g4 hS => ?_)
  rw [n1, n3, z11]
  refine lv_astore_n (lv' := [(1, .ref q), (0, .ref b)]) hx hb dL_7 rfl hl (by decide) rfl (fun ls hl => ?_)
  refine lc_new (c := 12) (ads := [q] ++ tl) (ns := nb) C0 (by decide) dL_8 (by rw [show xon 12 = "BeanTrugModel" by decide +kernel]; exact cl_law.2) hK g3 g4 hP hD hS ⟨by decide, by rw [x12]; decide⟩ (fun q2 H3 g5 g6 hP hD hS => ?_)
  rw [x12]
  refine lv_dup hx hb dL_11 rfl ?_
  have eq2 : ([q] ++ tl ++ [q2]).getD nb.length 0 = q2 := by
    rw [List.getD_eq_getElem?_getD, List.getElem?_append_right (by rw [g3]; exact Nat.le_refl _), g3, Nat.sub_self]
    rfl
  have hstep : ∀ (kc ks : Nat), kc = 0 + 1 + (234 - 1) + 1 → ks = 0 + 14 + (8259 - 14) + 41 → W p l e room_1 s m #[Value.ref b] below meth c H3 locs2 kc ks (lw_Z below #[Value.ref b] s) (F0 m (8 + 3 + 1) ls (.ref (([q] ++ tl ++ [q2]).getD nb.length 0) :: [.ref q2])) := by
    intro kc ks hkc hks
    subst hkc
    subst hks
    refine lc_ctor (y2 := 12) (q := nb.length) (ads := [q] ++ tl ++ [q2]) (ns := nb ++ [(Sum.inl (12, cdef 12) : cE)]) (ns2 := nf) C0 (by decide) (by decide +kernel) dL_12 ci_law.2 hK hAO cm1 ⟨cm2, cm3⟩ g5 (by rw [l12]; omega) g6 hP hD hS hl.1 (Nat.le_of_ble_eq_true rfl) ⟨by rw [n2, l12, n1]; decide, by rw [n4, z12, n3]; decide⟩ (fun H4 locs4 tl2 g7 hP hD g8 hS => ?_)
    rw [n2, l12, n1, n4, z12, n3]
    refine lv_astore_n (lv' := [(2, .ref q2), (1, .ref q), (0, .ref b)]) hx hb dL_15 rfl hl (by decide) rfl (fun ls hl => ?_)
    refine lv_iconst (v := 0) hx hb dL_16 (by decide) ?_
    refine lv_istore_n (lv' := [(3, .int 0), (2, .ref q2), (1, .ref q), (0, .ref b)]) hx hb dL_17 rfl hl (by decide) rfl (fun ls hl => ?_)
    obtain ⟨sd, hSd⟩ := lw_S hts hgv (A := fun q => s.heap.size ≤ q) (fun a ha => Nat.not_le.mpr ha)
    have hA := xinitA (D := D) (sd := sd) g7 hck hD
    have eB0 : ([q] ++ tl ++ [q2] ++ tl2).getD (coff 11 0) 0 = q := by
      rw [show coff 11 0 = 0 by decide +kernel]
      rfl
    have eM0 : ([q] ++ tl ++ [q2] ++ tl2).getD (coff 12 0) 0 = q2 := by
      rw [show coff 12 0 = nb.length by rw [n1]; decide +kernel, List.getD_eq_getElem?_getD, List.getElem?_append_left (by rw [List.length_append, g3]; simp), ← List.getD_eq_getElem?_getD]
      exact eq2
    refine va_forget (fun q hq => hS.2.2 q hq) ?_
    refine law_loop_open (g := (D, (fun c i => ([q] ++ tl ++ [q2] ++ tl2).getD (coff c i) 0), κ, sd)) HI hL (L + 6) 0 (by omega) (by omega) xh0 HI.1 xh0_hd p e s m below meth c H4 [] ls C0 hK ⟨hSd.1.narrow hA, hSd.2.1, hSd.2.2.1.narrow hA, hSd.2.2.2.narrow hA⟩ (xinitJ g7 hck hD) hA xh0_hd (xinit g7 hck hP) ⟨hS.1, fun q h1 h2 => hS.2.1 q h1 (Nat.not_le.mpr h1), fun _ h => by cases h⟩ ?_
    · show lv_has ls 4 [(0, .ref b), (1, .ref (([q] ++ tl ++ [q2] ++ tl2).getD (coff 11 0) 0)), (2, .ref (([q] ++ tl ++ [q2] ++ tl2).getD (coff 12 0) 0)), (3, .int (nI 0))]
      rw [eB0, eM0]
      exact lv_sub hl [3, 2, 1, 0] rfl
  rw [eq2] at hstep
  exact hstep _ _ rfl rfl
