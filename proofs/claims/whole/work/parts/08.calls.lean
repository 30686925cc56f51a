/-! ROWS OF NUMBERS, CALLS, CONTRACTS over the typed store -/
section XCALL
variable {g : xG} {l : Launch} {d y pc : Nat} {ls : List (Nat × xV)} {st : List xV} {h h' : xH} {r : Option xV}
theorem xae_i {c i : Nat} (ht : (xak c).1 = 0 ∨ (xak c).1 = 1 ∨ (xak c).1 = 3) : xae g h c i = ((xak c).2.1, .inl (h.2.2.2.1 c i)) := by
  unfold xae
  rw [if_neg (by omega), if_pos (by omega)]
theorem xae_l {c i : Nat} (ht : (xak c).1 = 2) : xae g h c i = ((xak c).2.1, .inr (.inl (h.2.2.2.2 c i))) := by
  unfold xae
  rw [if_pos ht]
theorem xae_q {c i : Nat} (ht : 4 ≤ (xak c).1) : xae g h c i = ((xak c).2.1, .inr (.inr (.inr (.inr (fun j => some (g.2.1 (xak c).2.2.1 ((xak c).2.2.2 + j))))))) := by
  unfold xae
  rw [if_neg (by omega), if_neg (by omega)]
theorem xs_iald {c i : Nat} {j : Int32} (hd : decode (xcode y) pc = .ok (.iaload, 1)) (hc : 13 ≤ c) (ht : (xak c).1 = 0) (hin : vp_in j (xak c).2.1) (kk : xEv g l d y (pc + 1) ls (xi (h.2.2.2.1 c i j.toNatClampNeg) :: st) h r h') : xEv g l d y pc ls (xi j :: xr c (some i) :: st) h r h' := by
  intro p e s m args below meth c0 H locs la F v1 v2 v3 hP hS hl
  obtain ⟨q, hq⟩ := xdom_at (show i < xcnt c from v2.t.h)
  have ha := xat_a (g := g) (h := h) hc hq
  rw [xae_i (Or.inl ht), ht] at ha
  exact va_iald F.1 F.2.1 F.K hP q 0 ha rfl hin hd (kk p e s m args below meth c0 H locs la F v1 (xvl.c trivial v2.t.t) v3 hP hS hl)
theorem xs_bald {c i : Nat} {j : Int32} (hd : decode (xcode y) pc = .ok (.baload, 1)) (hc : 13 ≤ c) (ht : (xak c).1 = 1) (hin : vp_in j (xak c).2.1) (kk : xEv g l d y (pc + 1) ls (xi (h.2.2.2.1 c i j.toNatClampNeg) :: st) h r h') : xEv g l d y pc ls (xi j :: xr c (some i) :: st) h r h' := by
  intro p e s m args below meth c0 H locs la F v1 v2 v3 hP hS hl
  obtain ⟨q, hq⟩ := xdom_at (show i < xcnt c from v2.t.h)
  have ha := xat_a (g := g) (h := h) hc hq
  rw [xae_i (Or.inr (Or.inl ht)), ht] at ha
  exact va_bald F.1 F.2.1 F.K hP q 1 ha rfl hin hd (kk p e s m args below meth c0 H locs la F v1 (xvl.c trivial v2.t.t) v3 hP hS hl)
theorem xs_zald {c i : Nat} {j : Int32} (hd : decode (xcode y) pc = .ok (.baload, 1)) (hc : 13 ≤ c) (ht : (xak c).1 = 3) (hin : vp_in j (xak c).2.1) (kk : xEv g l d y (pc + 1) ls (xi (h.2.2.2.1 c i j.toNatClampNeg) :: st) h r h') : xEv g l d y pc ls (xi j :: xr c (some i) :: st) h r h' := by
  intro p e s m args below meth c0 H locs la F v1 v2 v3 hP hS hl
  obtain ⟨q, hq⟩ := xdom_at (show i < xcnt c from v2.t.h)
  have ha := xat_a (g := g) (h := h) hc hq
  rw [xae_i (Or.inr (Or.inr ht)), ht] at ha
  exact va_zald F.1 F.2.1 F.K hP q 3 ha rfl hin hd (kk p e s m args below meth c0 H locs la F v1 (xvl.c trivial v2.t.t) v3 hP hS hl)
theorem xs_lald {c i : Nat} {j : Int32} (hd : decode (xcode y) pc = .ok (.laload, 1)) (hc : 13 ≤ c) (ht : (xak c).1 = 2) (hin : vp_in j (xak c).2.1) (kk : xEv g l d y (pc + 1) ls (xl (h.2.2.2.2 c i j.toNatClampNeg) :: st) h r h') : xEv g l d y pc ls (xi j :: xr c (some i) :: st) h r h' := by
  intro p e s m args below meth c0 H locs la F v1 v2 v3 hP hS hl
  obtain ⟨q, hq⟩ := xdom_at (show i < xcnt c from v2.t.h)
  have ha := xat_a (g := g) (h := h) hc hq
  rw [xae_l ht, ht] at ha
  exact va_lald F.1 F.2.1 F.K hP q 2 ha rfl hin hd (kk p e s m args below meth c0 H locs la F v1 (xvl.c trivial v2.t.t) v3 hP hS hl)
theorem xs_aald {c i f a n : Nat} {j : Int32} (hd : decode (xcode y) pc = .ok (.aaload, 1)) (hc : 13 ≤ c) (ht : 4 ≤ (xak c).1) (ht2 : (xak c).1 ≤ 6) (hn : (xak c).2.1 = n) (hf : (xak c).2.2.1 = f) (ha0 : (xak c).2.2.2 = a) (hb : a + n ≤ xcnt f) (hin : vp_in j n) (kk : xEv g l d y (pc + 1) ls (xr f (some (a + j.toNatClampNeg)) :: st) h r h') : xEv g l d y pc ls (xi j :: xr c (some i) :: st) h r h' := by
  intro p e s m args below meth c0 H locs la F v1 v2 v3 hP hS hl
  obtain ⟨q, hq⟩ := xdom_at (show i < xcnt c from v2.t.h)
  have ha := xat_a (g := g) (h := h) hc hq
  rw [xae_q ht, hn, hf, ha0] at ha
  have hlt : j.toNatClampNeg < n := Nat.not_le.mp fun q => hin (Or.inr q)
  have kk' := kk p e s m args below meth c0 H locs la F v1 (xvl.c (show a + j.toNatClampNeg < xcnt f by omega) v2.t.t) v3 hP hS hl
  rcases (show (xak c).1 = 4 ∨ (xak c).1 = 5 ∨ (xak c).1 = 6 by omega) with e1 | e1 | e1
  · rw [e1] at ha
    exact va_aldq F.1 F.2.1 F.K hP q 4 ha rfl hin hd kk'
  · rw [e1] at ha
    exact va_aldq F.1 F.2.1 F.K hP q 5 ha rfl hin hd kk'
  · rw [e1] at ha
    exact va_aldq F.1 F.2.1 F.K hP q 6 ha rfl hin hd kk'
theorem xs_alen {c i n : Nat} {v : Int32} (hd : decode (xcode y) pc = .ok (.arraylength, 1)) (hc : 13 ≤ c) (ht : (xak c).1 ≤ 6) (hn : (xak c).2.1 = n) (hv : Int32.ofNat n = v) (kk : xEv g l d y (pc + 1) ls (xi v :: st) h r h') : xEv g l d y pc ls (xr c (some i) :: st) h r h' := by
  intro p e s m args below meth c0 H locs la F v1 v2 v3 hP hS hl
  obtain ⟨q, hq⟩ := xdom_at (show i < xcnt c from v2.h)
  have ha := xat_a (g := g) (h := h) hc hq
  have kk' := kk p e s m args below meth c0 H locs la F v1 (xvl.c trivial v2.t) v3 hP hS hl
  have e0 : (xae g h c i).1 = n := hn
  have key : ∃ (t0 : Nat) (ty : FieldType), (xtys g)[t0]? = some (g.2.2.1 (xak c).1, ty) := by
    rcases (show (xak c).1 = 0 ∨ (xak c).1 = 1 ∨ (xak c).1 = 2 ∨ (xak c).1 = 3 ∨ (xak c).1 = 4 ∨ (xak c).1 = 5 ∨ (xak c).1 = 6 by omega) with e1 | e1 | e1 | e1 | e1 | e1 | e1
    · exact ⟨0, _, by rw [e1]; rfl⟩
    · exact ⟨1, _, by rw [e1]; rfl⟩
    · exact ⟨2, _, by rw [e1]; rfl⟩
    · exact ⟨3, _, by rw [e1]; rfl⟩
    · exact ⟨4, _, by rw [e1]; rfl⟩
    · exact ⟨5, _, by rw [e1]; rfl⟩
    · exact ⟨6, _, by rw [e1]; rfl⟩
  obtain ⟨t0, ty, hty⟩ := key
  exact va_alen F.1 F.2.1 F.K hP q t0 ha hty (by rw [e0]; exact hv) hd kk'
theorem xsA_set {c i q : Nat} {f : Nat → Int32} (hc : 13 ≤ c) (ht : (xak c).1 = 0 ∨ (xak c).1 = 1 ∨ (xak c).1 = 3) (hq : xdom[q]? = some (c, i)) : (xws g h).set q (g.2.1 c i, .inl (g.2.2.1 (xak c).1, (xak c).2.1, .inl f)) = xws g (xsA h c i f) := by
  refine xws_set (p := (c, i)) hq ?_ (fun p' hp' => ?_)
  · rw [xce_a hc, xae_i ht]
    congr 4
    exact xw_s
  · obtain ⟨c', i'⟩ := p'
    unfold xce
    split
    · rfl
    · congr 2
      unfold xae
      rw [show (xsA h c i f).2.2.2.1 c' i' = h.2.2.2.1 c' i' from xw_n (fun z => hp' (by rw [z.1, z.2]))]
      rfl
theorem xsB_set {c i q : Nat} {f : Nat → Int64} (hc : 13 ≤ c) (ht : (xak c).1 = 2) (hq : xdom[q]? = some (c, i)) : (xws g h).set q (g.2.1 c i, .inl (g.2.2.1 (xak c).1, (xak c).2.1, .inr (.inl f))) = xws g (xsB h c i f) := by
  refine xws_set (p := (c, i)) hq ?_ (fun p' hp' => ?_)
  · rw [xce_a hc, xae_l ht]
    congr 5
    exact xw_s
  · obtain ⟨c', i'⟩ := p'
    unfold xce
    split
    · rfl
    · congr 2
      unfold xae
      rw [show (xsB h c i f).2.2.2.2 c' i' = h.2.2.2.2 c' i' from xw_n (fun z => hp' (by rw [z.1, z.2]))]
      rfl
theorem xs_iast {c i : Nat} {j a : Int32} (hd : decode (xcode y) pc = .ok (.iastore, 1)) (hc : 13 ≤ c) (ht : (xak c).1 = 0) (hin : vp_in j (xak c).2.1) (kk : xEv g l d y (pc + 1) ls st (xsA h c i (upd (h.2.2.2.1 c i) j.toNatClampNeg a)) r h') : xEv g l d y pc ls (xi a :: xi j :: xr c (some i) :: st) h r h' := by
  intro p e s m args below meth c0 H locs la F v1 v2 v3 hP hS hl
  obtain ⟨q, hq⟩ := xdom_at (show i < xcnt c from v2.t.t.h)
  have ha := xat_a (g := g) (h := h) hc hq
  rw [xae_i (Or.inl ht)] at ha
  refine va_iast F.1 F.2.1 F.K hP (xD F.J) hS q 0 ha (by rw [ht]; rfl) hin hd (fun H1 locs1 hP1 _ hS1 => ?_)
  rw [xsA_set hc (Or.inl ht) hq] at hP1
  exact kk p e s m args below meth c0 H1 locs1 la F v1 v2.t.t.t v3 hP1 hS1 hl
theorem xs_bast {c i : Nat} {j a : Int32} (hd : decode (xcode y) pc = .ok (.bastore, 1)) (hc : 13 ≤ c) (ht : (xak c).1 = 1) (hin : vp_in j (xak c).2.1) (kk : xEv g l d y (pc + 1) ls st (xsA h c i (upd (h.2.2.2.1 c i) j.toNatClampNeg a.toInt8.toInt32)) r h') : xEv g l d y pc ls (xi a :: xi j :: xr c (some i) :: st) h r h' := by
  intro p e s m args below meth c0 H locs la F v1 v2 v3 hP hS hl
  obtain ⟨q, hq⟩ := xdom_at (show i < xcnt c from v2.t.t.h)
  have ha := xat_a (g := g) (h := h) hc hq
  rw [xae_i (Or.inr (Or.inl ht))] at ha
  refine va_bast F.1 F.2.1 F.K hP (xD F.J) hS q 1 ha (by rw [ht]; rfl) hin hd (fun H1 locs1 hP1 _ hS1 => ?_)
  rw [vp_nar_byte, xsA_set hc (Or.inr (Or.inl ht)) hq] at hP1
  exact kk p e s m args below meth c0 H1 locs1 la F v1 v2.t.t.t v3 hP1 hS1 hl
theorem xs_zast {c i : Nat} {j a : Int32} (hd : decode (xcode y) pc = .ok (.bastore, 1)) (hc : 13 ≤ c) (ht : (xak c).1 = 3) (hin : vp_in j (xak c).2.1) (hz : a = 0 ∨ a = 1) (kk : xEv g l d y (pc + 1) ls st (xsA h c i (upd (h.2.2.2.1 c i) j.toNatClampNeg a)) r h') : xEv g l d y pc ls (xi a :: xi j :: xr c (some i) :: st) h r h' := by
  intro p e s m args below meth c0 H locs la F v1 v2 v3 hP hS hl
  obtain ⟨q, hq⟩ := xdom_at (show i < xcnt c from v2.t.t.h)
  have ha := xat_a (g := g) (h := h) hc hq
  rw [xae_i (Or.inr (Or.inr ht))] at ha
  refine va_zast F.1 F.2.1 F.K hP (xD F.J) hS q 3 ha (by rw [ht]; rfl) hin hd (fun H1 locs1 hP1 _ hS1 => ?_)
  rw [show vp_nar .boolean a = a by rcases hz with rfl | rfl <;> rfl, xsA_set hc (Or.inr (Or.inr ht)) hq] at hP1
  exact kk p e s m args below meth c0 H1 locs1 la F v1 v2.t.t.t v3 hP1 hS1 hl
theorem xs_last {c i : Nat} {j : Int32} {a : Int64} (hd : decode (xcode y) pc = .ok (.lastore, 1)) (hc : 13 ≤ c) (ht : (xak c).1 = 2) (hin : vp_in j (xak c).2.1) (kk : xEv g l d y (pc + 1) ls st (xsB h c i (vp_updL (h.2.2.2.2 c i) j.toNatClampNeg a)) r h') : xEv g l d y pc ls (xl a :: xi j :: xr c (some i) :: st) h r h' := by
  intro p e s m args below meth c0 H locs la F v1 v2 v3 hP hS hl
  obtain ⟨q, hq⟩ := xdom_at (show i < xcnt c from v2.t.t.h)
  have ha := xat_a (g := g) (h := h) hc hq
  rw [xae_l ht] at ha
  refine va_last F.1 F.2.1 F.K hP (xD F.J) hS q 2 ha (by rw [ht]; rfl) hin hd (fun H1 locs1 hP1 _ hS1 => ?_)
  rw [xsB_set hc ht hq] at hP1
  exact kk p e s m args below meth c0 H1 locs1 la F v1 v2.t.t.t v3 hP1 hS1 hl
theorem xsum (st : List xV) : ((st.map (xcv g)).map (fun v => v.category)).sum = (st.map xcat).sum := by
  congr 1
  rw [List.map_map]
  exact List.map_congr_left (fun v _ => xcv_cat g v)
/-- System.arraycopy of ints -/
theorem xs_copy {c i c2 i2 idx : Nat} {sp dp n : Int32} (hd : decode (xcode y) pc = .ok (.invokestatic idx, 3)) (hm : Cond.methodLink (xon (xkey y)) idx arraycopyName ∈ lw_tbl) (hm2 : Cond.native arraycopyName ∈ lw_tbl ∧ Cond.static arraycopyName ∈ lw_tbl ∧ Cond.initialized "java/lang/System" ∈ lw_tbl) (hc : 13 ≤ c) (ht : (xak c).1 = 0) (hc2 : 13 ≤ c2) (ht2 : (xak c2).1 = 0) (h1 : ¬ sp < 0) (h2 : ¬ dp < 0) (h3 : ¬ n < 0) (h4 : sp.toNatClampNeg + n.toNatClampNeg ≤ (xak c).2.1) (h5 : dp.toNatClampNeg + n.toNatClampNeg ≤ (xak c2).2.1) (hw : (st.map xcat).sum ≤ 8) (hdd : 1 ≤ d)
    (kk : xEv g l d y (pc + 3) ls st (xsA h c2 i2 (va_cpy (h.2.2.2.1 c i) (h.2.2.2.1 c2 i2) sp.toNatClampNeg dp.toNatClampNeg n.toNatClampNeg)) r h') : xEv g l d y pc ls (xi n :: xi dp :: xr c2 (some i2) :: xi sp :: xr c (some i) :: st) h r h' := by
  intro p e s m args below meth c0 H locs la F v1 v2 v3 hP hS hl
  obtain ⟨q0, hq0⟩ := xdom_at (show i < xcnt c from v2.t.t.t.t.h)
  obtain ⟨q1, hq1⟩ := xdom_at (show i2 < xcnt c2 from v2.t.t.h)
  have ha0 := xat_a (g := g) (h := h) hc hq0
  have ha1 := xat_a (g := g) (h := h) hc2 hq1
  rw [xae_i (Or.inl ht)] at ha0
  rw [xae_i (Or.inl ht2)] at ha1
  refine va_copyi (own := xon (xkey y)) (index := idx) (ty := .int) F.1 F.2.1 (F.2.2.2.1.trans hl.1.symm) F.own (F.wd hm rfl) (F.wd hm2.1 rfl) (F.wd hm2.2.1 rfl) (F.wd hm2.2.2 rfl) F.K hP (xD F.J) hS q0 q1 0 0 ha0 ha1 (by rw [ht]; rfl) (by rw [ht2]; rfl) rfl h1 h2 h3 h4 h5 (fun _ _ => rfl) (show 1 ≤ d from hdd) ?_ hd (fun H1 locs1 hP1 _ hS1 => ?_)
  · rw [xsum]
    have e1 : nativeFrameWords "java/lang/System" "arraycopy" 5 = 7 := by decide +kernel
    rw [e1]
    show (st.map xcat).sum + (7 + 11) ≤ 60 * d
    omega
  · rw [xsA_set hc2 (Or.inl ht2) hq1] at hP1
    exact kk p e s m args below meth c0 H1 locs1 la F v1 v2.t.t.t.t.t v3 hP1 hS1 hl
def xargs : Nat → List xV → List (Nat × xV)
  | _, [] => []
  | i, v :: vs => (i, v) :: xargs (if xcat v = 2 then i + 2 else i + 1) vs
theorem xargs_map : ∀ (i : Nat) (as : List xV), (xargs i as).map (fun q => (q.1, xcv g q.2)) = lv_args i (as.map (xcv g))
  | _, [] => rfl
  | i, v :: vs => by
    show (i, xcv g v) :: (xargs (if xcat v = 2 then i + 2 else i + 1) vs).map (fun q => (q.1, xcv g q.2)) = (i, xcv g v) :: lv_args (if (xcv g v).category = 2 then i + 2 else i + 1) (vs.map (xcv g))
    rw [xargs_map, xcv_cat]
theorem xargs_vq : ∀ (i : Nat) (as : List xV), xvl as → xvq (xargs i as)
  | _, [], _ => fun q hq => by cases hq
  | i, v :: vs, hv => fun q hq => by
    rcases List.mem_cons.mp hq with e | e
    · rw [e]; exact hv.h
    · exact xargs_vq _ vs hv.t q e
/-- A CONTRACT out of the walk of a method's body -/
theorem xC_of {as : List xV} (hy : y < xnM) (hsz : (lg_sl (as.map (xcv g))).length ≤ xmaxL y) (k : xEv g l d y 0 (xargs 0 as) [] h r h') : xC g l d y as h r h' := by
  intro hv hh
  refine va_MetF (cc := xcode y) (maxL := xmaxL y) (ret := xret y) (xm_at hy).1 rfl ?_
  intro p e s m args below meth c s₁ B hml hv2
  obtain ⟨rfl, hP, hK, hSt, hJ⟩ := hv2
  have F : xFr g y p s m (as.map (xcv g)).toArray meth c := ⟨B.exec, B.bytes, B.returns, hml, findClass_of_methodNamed B.named, atoms_spec (ws := xwords y) B.pre, B.notSynchronized, hK, hSt, hJ, hy⟩
  have hl := lv_entry (as.map (xcv g)) (n := xmaxL y) hsz
  rw [lg_entry_eq]
  rw [← xargs_map (g := g) 0 as] at hl
  exact k p e s m _ below meth c s.heap [] _ F (xargs_vq 0 as hv) (fun v hv => by cases hv) hh hP va_S.rf hl
theorem xblind {as : List xV} : FrameBlind (va_Pc (as.map (xcv g)) (fun U => va_P g.1 vwCl (xws g h) U.heap ∧ va_K g.1 vwCl (xtys g) U ∧ xS g U U.heap ∧ xJ g)) :=
  fun a U gg mk q => ⟨q.1, q.2.1, va_K.moved (u := U) (U := U.calling gg mk a) (Vm.Alike.refl U.vm) q.2.2.1, xS.same (U := U) (T := U.calling gg mk a) rfl q.2.2.2.1, q.2.2.2.2⟩
theorem xback {p : Program} {e : Env} {s : State} {m : MethodId} {args : Array Value} {below : List Frame} {meth : Method} {c0 : Code} {H : Heap} {locs : List Loc} {la : Array Slot} {r2 : Option xV} {h2 : xH} {a : Array Value} {st0 : List Value}
    (hrun : va_Run p l e (xroom d) s m args below meth c0 H locs 0 0 0 0 (F0 m pc la st0) (st.map (xcv g)) (xQ g r2 h2 a) (xA g)) (F : xFr g y p s m args meth c0) (v1 : xvq ls) (v2 : xvl st) (hS : va_S (xA g) s.heap H locs) (hl : lv_has la (xmaxL y) (ls.map (fun q => (q.1, xcv g q.2))))
    (k : xEv g l d y (pc + 3) ls (r2.toList ++ st) h2 r h') : W p l e (xroom d) s m args below meth c0 H locs 0 0 (MQ below (xQ g r h') args s 0 0 (xA g)) (F0 m pc la st0) := by
  intro T hT X
  obtain ⟨v, st₀, t, T', L, h0, X', hL, e1, e2, ⟨hv, hP2, hF2, hh2, hvo⟩, go⟩ := hrun T hT X
  have hv : v = r2.map (xcv g) := by injection hv
  subst hv
  obtain ⟨hz, hk⟩ := hF2
  rw [h0] at hz hk
  have hval : xvl (r2.toList ++ st) := by
    cases r2 with
    | none => exact v2
    | some w => exact xvl.c (hvo w rfl) v2
  have hS1 : va_S (xA g) s.heap T'.heap (locs ++ L) := ⟨Nat.le_trans hS.1 (by rw [e1]; exact hz), fun q a1 a2 => by rw [e1, hk q (Nat.lt_of_lt_of_le a1 hS.1) a2]; exact hS.2.1 q a1 a2, fun q hq => by
      rcases List.mem_append.mp hq with h | h
      · exact hS.2.2 q h
      · exact hL q h⟩
  obtain ⟨t2, a1, b1⟩ := k p e s m args below meth c0 T'.heap (locs ++ L) la F v1 hval hh2 (by rw [e1]; exact hP2) hS1 hl T' rfl X'
  have key : (r2.toList ++ st).map (xcv g) = (r2.map (xcv g)).toList ++ st.map (xcv g) := by cases r2 <;> rfl
  rw [key] at a1
  exact ⟨t2, go t2 a1, b1⟩
/-- a call of an object's method -/
theorem xs_callv {n idx y2 pl c i d2 : Nat} {as st0 : List xV} {r2 : Option xV} {h2 : xH} (hd : decode (xcode y) pc = .ok (.invokevirtual idx, 3)) (hn : xmlT[n]? = some (xkey y, idx, y2, pl)) (hs : xstat y2 = false) (hc : c < 13) (hcn : (xcl c).1 = (xname y2).cls) (hst : st0 = as.reverse ++ xr c (some i) :: st) (hlen : as.length = xnarg y2) (hw : (st.map xcat).sum ≤ 8) (hdd : d2 + 1 ≤ d) (C : xC g l d2 y2 (xr c (some i) :: as) h r2 h2) (k : xEv g l d y (pc + 3) ls (r2.toList ++ st) h2 r h') : xEv g l d y pc ls st0 h r h' := by
  intro p e s m args below meth c0 H locs la F v1 v2 v3 hP hS hl
  subst hst
  obtain ⟨hy2, hml⟩ := xml_at hn
  obtain ⟨w1, w2, w3⟩ := xmw_i hy2 hs
  obtain ⟨-, o1, o2, o3, o4, o5⟩ := xm_at hy2
  have va : xvl (xr c (some i) :: as) := xvl.c (v2 _ (List.mem_append_right _ List.mem_cons_self)) (fun x hx => v2 x (List.mem_append_left _ (List.mem_reverse.mpr hx)))
  obtain ⟨q, hq⟩ := xdom_at (show i < xcnt c from va.h)
  have M := C va v3
  have hG : GoodIn (xwords y) (wsV (xon (xkey y)) idx (xname y2).cls (xname y2) (xwords y2)) := by
    intro w hw
    rcases List.mem_append.mp hw with hw | hw
    · have : w ∈ lw_tbl ∧ goodWord w = true := by
        rcases List.mem_cons.mp hw with e1 | hw
        · rw [e1]; exact ⟨hml, rfl⟩
        rcases List.mem_cons.mp hw with e1 | hw
        · rw [e1]; exact ⟨w2, rfl⟩
        rcases List.mem_cons.mp hw with e1 | hw
        · rw [e1]; exact ⟨w3, rfl⟩
        rcases List.mem_cons.mp hw with e1 | hw
        · rw [e1]; exact ⟨w1, rfl⟩
        cases hw
      exact ⟨List.mem_cons_of_mem _ (xin this.1 this.2), good_of_word this.2⟩
    · exact xwords_good hy2 w hw
  refine xback (va_runV (own := xon (xkey y)) (C := (xname y2).cls) (As := as.map (xcv g)) (rest := st.map (xcv g)) ⟨F.1, F.2.1, F.2.2.2.1, F.own, F.2.2.2.2.2.1⟩ M (cwV (ws' := xtbl) (bytes := xcode y2) (maxL := xmaxL y2) (ret := xret y2) (xnarg y2) F.2.2.2.2.2.1 hG rfl rfl rfl ⟨rfl, o2, o3, o4⟩ ⟨show d2 + 1 ≤ d from hdd, ?_⟩) ⟨xblind, ?_, fun U hU hW => ⟨rfl, by rw [hU]; exact hP, va_K.moved hW.alike F.K, F.S.call hS hW hU, F.J⟩⟩ rfl (by rw [List.length_map]; exact hlen) hl.1 ?_ (lv_room (by rw [xsum]; exact hw)) hd ⟨Nat.le_refl _, Nat.le_refl _⟩) F v1 (fun x hx => v2 x (List.mem_append_right _ (List.mem_cons_of_mem _ hx))) hS hl k
  · show 8 + (xmaxL y2 + 11) + 60 * d2 ≤ 60 * d
    omega
  · rw [← hcn]
    exact va_recv F.K hP (xcl_at hc) (xat_c hc hq)
  · show (as.reverse ++ xr c (some i) :: st).map (xcv g) = (as.map (xcv g)).reverse ++ _
    rw [List.map_append, List.map_reverse]
    rfl
/-- a call of a class's method -/
theorem xs_calls {n idx y2 pl d2 : Nat} {as st0 : List xV} {r2 : Option xV} {h2 : xH} (hd : decode (xcode y) pc = .ok (.invokestatic idx, 3)) (hn : xmlT[n]? = some (xkey y, idx, y2, pl)) (hs : xstat y2 = true) (hst : st0 = as.reverse ++ st) (hlen : as.length = xnarg y2) (hw : (st.map xcat).sum ≤ 8) (hdd : d2 + 1 ≤ d) (C : xC g l d2 y2 as h r2 h2) (k : xEv g l d y (pc + 3) ls (r2.toList ++ st) h2 r h') : xEv g l d y pc ls st0 h r h' := by
  intro p e s m args below meth c0 H locs la F v1 v2 v3 hP hS hl
  subst hst
  obtain ⟨hy2, hml⟩ := xml_at hn
  obtain ⟨w1, w2⟩ := xmw_s hy2 hs
  obtain ⟨-, o1, o2, o3, o4, o5⟩ := xm_at hy2
  have va : xvl as := fun x hx => v2 x (List.mem_append_left _ (List.mem_reverse.mpr hx))
  have M := C va v3
  have hG : GoodIn (xwords y) (va_wsS (xon (xkey y)) idx (xname y2) (xwords y2)) := by
    intro w hw
    rcases List.mem_append.mp hw with hw | hw
    · have : w ∈ lw_tbl ∧ goodWord w = true := by
        rcases List.mem_cons.mp hw with e1 | hw
        · rw [e1]; exact ⟨hml, rfl⟩
        rcases List.mem_cons.mp hw with e1 | hw
        · rw [e1]; exact ⟨w2, rfl⟩
        rcases List.mem_cons.mp hw with e1 | hw
        · rw [e1]; exact ⟨w1, rfl⟩
        cases hw
      exact ⟨List.mem_cons_of_mem _ (xin this.1 this.2), good_of_word this.2⟩
    · exact xwords_good hy2 w hw
  refine xback (va_runS (own := xon (xkey y)) (As := as.map (xcv g)) (rest := st.map (xcv g)) ⟨F.1, F.2.1, F.2.2.2.1, F.own, F.2.2.2.2.2.1⟩ M (va_cwS (ws' := xtbl) (bytes := xcode y2) (maxL := xmaxL y2) (ret := xret y2) (xnarg y2) F.2.2.2.2.2.1 hG rfl rfl rfl ⟨o2, o3, o4⟩ ⟨show d2 + 1 ≤ d from hdd, ?_⟩) ⟨xblind, fun U hU hW => ⟨rfl, by rw [hU]; exact hP, va_K.moved hW.alike F.K, F.S.call hS hW hU, F.J⟩⟩ rfl (by rw [List.length_map]; exact hlen) hl.1 ?_ (lv_room (by rw [xsum]; exact hw)) hd ⟨Nat.le_refl _, Nat.le_refl _⟩) F v1 (fun x hx => v2 x (List.mem_append_right _ hx)) hS hl k
  · show 8 + (xmaxL y2 + 11) + 60 * d2 ≤ 60 * d
    omega
  · show (as.reverse ++ st).map (xcv g) = (as.map (xcv g)).reverse ++ _
    rw [List.map_append, List.map_reverse]
end XCALL
