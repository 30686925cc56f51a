/-! the run of a constructor, and that the machine does it -/
def cfl (o idx : Nat) : Option (Nat × Nat × Nat × Nat × Nat) := xflT.find? (fun q => q.1 == o && q.2.1 == idx)
def ccl (o idx : Nat) : Option (Nat × Nat × Nat × Nat) := cclT.find? (fun q => q.1 == o && q.2.1 == idx)
def cil (o idx : Nat) : Option (Nat × Nat × Nat × Nat) := cilT.find? (fun q => q.1 == o && q.2.1 == idx)
def crun : Nat → Nat → Nat → Nat → List (Nat × cV) → List cV → List cE → Option (List cE)
  | 0, _, _, _, _, _, _ => none
  | n + 1, d, y, pc, ls, st, ns =>
    match decode (ccode y) pc with
    | .ok (.aload_n j, 1) => match cget ls (j : Nat) with
      | some (.inr (.inr o)) => crun n d y (pc + 1) ls (.inr (.inr o) :: st) ns
      | _ => none
    | .ok (.iload_n j, 1) => match cget ls (j : Nat) with
      | some (.inl a) => crun n d y (pc + 1) ls (.inl a :: st) ns
      | _ => none
    | .ok (.iconst z, 1) => crun n d y (pc + 1) ls (.inl (Int32.ofInt z) :: st) ns
    | .ok (.bipush z, 2) => crun n d y (pc + 2) ls (.inl (Int8.ofInt z).toInt32 :: st) ns
    | .ok (.sipush z, 3) => crun n d y (pc + 3) ls (.inl (Int16.ofInt z).toInt32 :: st) ns
    | .ok (.istore_n j, 1) => match st with
      | .inl a :: st => if (j : Nat) < cmaxL y then crun n d y (pc + 1) (cput ls (j : Nat) (.inl a)) st ns else none
      | _ => none
    | .ok (.iinc j z, 3) => match cget ls j with
      | some (.inl a) => if j < cmaxL y then crun n d y (pc + 3) (cput ls j (.inl (a + Int32.ofInt z))) st ns else none
      | _ => none
    | .ok (.dup, 1) => match st with
      | .inr (.inr o) :: st => crun n d y (pc + 1) ls (.inr (.inr o) :: .inr (.inr o) :: st) ns
      | _ => none
    | .ok (.goto off, 3) => if (pc : Int) + off = ((((pc : Int) + off).toNat : Nat) : Int) then crun n d y ((pc : Int) + off).toNat ls st ns else none
    | .ok (.if_icmp .ge off, 3) => match st with
      | .inl b :: .inl a :: st => if (pc : Int) + off = ((((pc : Int) + off).toNat : Nat) : Int) then (if b ≤ a then crun n d y ((pc : Int) + off).toNat ls st ns else crun n d y (pc + 3) ls st ns) else none
      | _ => none
    | .ok (.return_, 1) => match st with
      | [] => some ns
      | _ => none
    | .ok (.new idx, 3) => match ccl y idx with
      | some (_, _, c, _) => crun n d y (pc + 3) ls (.inr (.inr (some ns.length)) :: st) (ns ++ [.inl (c, cdef c)])
      | none => none
    | .ok (.newarray at', 2) => match catp at' with
      | some t => match st with
        | .inl a :: st => if ¬ a < 0 ∧ a.toNatClampNeg ≤ 10000 then crun n d y (pc + 2) ls (.inr (.inr (some ns.length)) :: st) (ns ++ [.inr (t, a.toNatClampNeg, [])]) else none
        | _ => none
      | none => none
    | .ok (.anewarray idx, 3) => match ccl y idx with
      | some (_, _, c, _) => match cott c with
        | some t => match st with
          | .inl a :: st => if ¬ a < 0 ∧ a.toNatClampNeg ≤ 10000 then crun n d y (pc + 3) ls (.inr (.inr (some ns.length)) :: st) (ns ++ [.inr (t, a.toNatClampNeg, [])]) else none
          | _ => none
        | none => none
      | none => none
    | .ok (.getfield idx, 3) => match cfl y idx with
      | some (_, _, c, k, _) => match st with
        | .inr (.inr (some q)) :: st => match ns[q]? with
          | some (.inl (c', fs)) => if c' = c then (match fs[k]? with
            | some v => crun n d y (pc + 3) ls (v :: st) ns
            | none => none) else none
          | _ => none
        | _ => none
      | none => none
    | .ok (.putfield idx, 3) => match cfl y idx with
      | some (_, _, c, k, _) => match st with
        | v :: .inr (.inr (some q)) :: st => match ns[q]? with
          | some (.inl (c', fs)) => match parseFieldDescriptor ((xcl c).2.1 k).2.2.1 with
            | some ty => if c' = c ∧ c = y ∧ k < fs.length ∧ cfit ty v = true then crun n d y (pc + 3) ls st (ns.set q (.inl (c, fs.set k v))) else none
            | none => none
          | _ => none
        | _ => none
      | none => none
    | .ok (.aastore, 1) => match st with
      | .inr (.inr (some qv)) :: .inl i :: .inr (.inr (some q)) :: st => match ns[q]? with
        | some (.inr (t, k, rs)) => match ns[qv]? with
          | some (.inl (c, _)) => if cott c = some t ∧ ¬ (i < 0 ∨ k ≤ i.toNatClampNeg) then crun n d y (pc + 1) ls st (ns.set q (.inr (t, k, cset rs i.toNatClampNeg qv))) else none
          | _ => none
        | _ => none
      | _ => none
    | .ok (.invokespecial idx, 3) => match cil y idx with
      | some (_, _, kk, _) => match d with
        | 0 => none
        | d' + 1 => match kk with
          | 0 => match st with
            | .inr (.inr (some _)) :: st => if (st.map ccat).sum ≤ 8 then crun n (d' + 1) y (pc + 3) ls st ns else none
            | _ => none
          | y2 + 1 => match (st.drop (cnarg y2)) with
            | .inr (.inr (some q)) :: st' => if (st.take (cnarg y2)).length = cnarg y2 ∧ (st'.map ccat).sum ≤ 8 ∧ (((.inr (.inr (some q)) :: (st.take (cnarg y2)).reverse : List cV)).map ccat).sum ≤ cmaxL y2 ∧ y2 < 13 then
                (match crun n d' y2 0 (cargs 0 (.inr (.inr (some q)) :: (st.take (cnarg y2)).reverse)) [] ns with
                  | some ns2 => crun n (d' + 1) y (pc + 3) ls st' ns2
                  | none => none) else none
            | _ => none
      | none => none
    | _ => none
theorem cfind3 {T : List (Nat × Nat × Nat × Nat)} {o idx : Nat} {q : Nat × Nat × Nat × Nat} (h : T.find? (fun q => q.1 == o && q.2.1 == idx) = some q) : ∃ n : Nat, T[n]? = some (o, idx, q.2.2.1, q.2.2.2) := by
  have h1 := List.find?_some h
  simp only [Bool.and_eq_true, beq_iff_eq] at h1
  obtain ⟨n, hn⟩ := List.getElem?_of_mem (List.mem_of_find?_eq_some h)
  exact ⟨n, by rw [hn, ← h1.1, ← h1.2]⟩
theorem cfind4 {T : List (Nat × Nat × Nat × Nat × Nat)} {o idx : Nat} {q : Nat × Nat × Nat × Nat × Nat} (h : T.find? (fun q => q.1 == o && q.2.1 == idx) = some q) : ∃ n : Nat, T[n]? = some (o, idx, q.2.2.1, q.2.2.2.1, q.2.2.2.2) := by
  have h1 := List.find?_some h
  simp only [Bool.and_eq_true, beq_iff_eq] at h1
  obtain ⟨n, hn⟩ := List.getElem?_of_mem (List.mem_of_find?_eq_some h)
  exact ⟨n, by rw [hn, ← h1.1, ← h1.2]⟩
set_option maxHeartbeats 4000000 in
set_option maxRecDepth 100000 in
theorem crun_ok : ∀ (n d y pc : Nat) (ls : List (Nat × cV)) (st : List cV) (ns ns' : List cE), crun n d y pc ls st ns = some ns' → (ns.length ≤ ns'.length ∧ csz ns ≤ csz ns') ∧ ∀ (D : va_G) (κ : Nat → ClassId) (l : Launch) (ads0 : List Nat) (sz MC MS : Nat), cEv D κ l d y MC MS sz ads0 pc ls st ns ns' := by
  intro n
  induction n with
  | zero => intro d y pc ls st ns ns' h; cases h
  | succ n ih =>
    intro d y pc ls st ns ns' h
    unfold crun at h
    split at h
    · rename_i j hd
      split at h
      · rename_i o hg
        obtain ⟨h1, h2⟩ := ih _ _ _ _ _ _ _ h
        exact ⟨h1, fun D κ l ads0 sz MC MS => ct_aload_n hd hg (h2 D κ l ads0 sz MC MS)⟩
      · cases h
    · rename_i j hd
      split at h
      · rename_i o hg
        obtain ⟨h1, h2⟩ := ih _ _ _ _ _ _ _ h
        exact ⟨h1, fun D κ l ads0 sz MC MS => ct_iload_n hd hg (h2 D κ l ads0 sz MC MS)⟩
      · cases h
    · rename_i z hd
      obtain ⟨h1, h2⟩ := ih _ _ _ _ _ _ _ h
      exact ⟨h1, fun D κ l ads0 sz MC MS => ct_num (h2 D κ l ads0 sz MC MS) (fun hx hb kk => lv_iconst hx hb hd rfl kk)⟩
    · rename_i z hd
      obtain ⟨h1, h2⟩ := ih _ _ _ _ _ _ _ h
      exact ⟨h1, fun D κ l ads0 sz MC MS => ct_num (h2 D κ l ads0 sz MC MS) (fun hx hb kk => lv_bipush hx hb hd rfl kk)⟩
    · rename_i z hd
      obtain ⟨h1, h2⟩ := ih _ _ _ _ _ _ _ h
      exact ⟨h1, fun D κ l ads0 sz MC MS => ct_num (h2 D κ l ads0 sz MC MS) (fun hx hb kk => lv_sipush hx hb hd rfl kk)⟩
    · rename_i j hd
      split at h
      · split at h
        · rename_i hj
          obtain ⟨h1, h2⟩ := ih _ _ _ _ _ _ _ h
          exact ⟨h1, fun D κ l ads0 sz MC MS => ct_istore_n hd hj (h2 D κ l ads0 sz MC MS)⟩
        · cases h
      · cases h
    · rename_i j z hd
      split at h
      · rename_i a hg
        split at h
        · rename_i hj
          obtain ⟨h1, h2⟩ := ih _ _ _ _ _ _ _ h
          exact ⟨h1, fun D κ l ads0 sz MC MS => ct_iinc hd hg hj (h2 D κ l ads0 sz MC MS)⟩
        · cases h
      · cases h
    · rename_i hd
      split at h
      · obtain ⟨h1, h2⟩ := ih _ _ _ _ _ _ _ h
        exact ⟨h1, fun D κ l ads0 sz MC MS => ct_dup hd rfl (h2 D κ l ads0 sz MC MS)⟩
      · cases h
    · rename_i off hd
      split at h
      · rename_i ht
        obtain ⟨h1, h2⟩ := ih _ _ _ _ _ _ _ h
        exact ⟨h1, fun D κ l ads0 sz MC MS => ct_goto hd ht (h2 D κ l ads0 sz MC MS)⟩
      · cases h
    · rename_i off hd
      split at h
      · split at h
        · rename_i ht
          split at h
          · rename_i hba
            obtain ⟨h1, h2⟩ := ih _ _ _ _ _ _ _ h
            exact ⟨h1, fun D κ l ads0 sz MC MS => ct_ge hd ht (fun _ => h2 D κ l ads0 sz MC MS) (fun q => absurd hba q)⟩
          · rename_i hba
            obtain ⟨h1, h2⟩ := ih _ _ _ _ _ _ _ h
            exact ⟨h1, fun D κ l ads0 sz MC MS => ct_ge hd ht (fun q => absurd q hba) (fun _ => h2 D κ l ads0 sz MC MS)⟩
        · cases h
      · cases h
    · rename_i hd
      split at h
      · obtain rfl := Option.some.inj h
        exact ⟨⟨Nat.le_refl _, Nat.le_refl _⟩, fun D κ l ads0 sz MC MS => ct_ret hd⟩
      · cases h
    · rename_i idx hd
      split at h
      · rename_i o' i' c pl hf
        obtain ⟨k, hk⟩ := cfind3 hf
        obtain ⟨⟨h1, h1'⟩, h2⟩ := ih _ _ _ _ _ _ _ h
        rw [List.length_append, List.length_singleton] at h1
        rw [csz_app, show csz1 (.inl (c, cdef c)) = xnf c by show (cdef c).length = _; unfold cdef; rw [List.length_map, List.length_range]] at h1'
        exact ⟨⟨by omega, by omega⟩, fun D κ l ads0 sz MC MS => ct_new hd hk h1 h1' (h2 D κ l ads0 sz MC MS)⟩
      · cases h
    · rename_i at' hd
      split at h
      · rename_i t hc
        split at h
        · rename_i a st'
          split at h
          · rename_i hab
            obtain ⟨⟨h1, h1'⟩, h2⟩ := ih _ _ _ _ _ _ _ h
            rw [List.length_append, List.length_singleton] at h1
            rw [csz_app, show csz1 (.inr (t, a.toNatClampNeg, [])) = a.toNatClampNeg from rfl] at h1'
            exact ⟨⟨by omega, by omega⟩, fun D κ l ads0 sz MC MS => ct_newa hd hc hab.1 rfl hab.2 h1 h1' (h2 D κ l ads0 sz MC MS)⟩
          · cases h
        · cases h
      · cases h
    · rename_i idx hd
      split at h
      · rename_i o' i' c pl hf
        obtain ⟨k, hk⟩ := cfind3 hf
        split at h
        · rename_i t hc
          split at h
          · rename_i a st'
            split at h
            · rename_i hab
              obtain ⟨⟨h1, h1'⟩, h2⟩ := ih _ _ _ _ _ _ _ h
              rw [List.length_append, List.length_singleton] at h1
              rw [csz_app, show csz1 (.inr (t, a.toNatClampNeg, [])) = a.toNatClampNeg from rfl] at h1'
              exact ⟨⟨by omega, by omega⟩, fun D κ l ads0 sz MC MS => ct_newq hd hk hc hab.1 rfl hab.2 h1 h1' (h2 D κ l ads0 sz MC MS)⟩
            · cases h
          · cases h
        · cases h
      · cases h
    · rename_i idx hd
      split at h
      · rename_i o' i' c k pl hf
        obtain ⟨j, hj⟩ := cfind4 hf
        split at h
        · rename_i q st'
          split at h
          · rename_i c' fs hq
            split at h
            · rename_i hcc
              subst hcc
              split at h
              · rename_i v hv
                obtain ⟨h1, h2⟩ := ih _ _ _ _ _ _ _ h
                exact ⟨h1, fun D κ l ads0 sz MC MS => ct_get hd hj hq hv (h2 D κ l ads0 sz MC MS)⟩
              · cases h
            · cases h
          · cases h
        · cases h
      · cases h
    · rename_i idx hd
      split at h
      · rename_i o' i' c k pl hf
        obtain ⟨j, hj⟩ := cfind4 hf
        split at h
        · rename_i v q st'
          split at h
          · rename_i c' fs hq
            split at h
            · rename_i ty hty
              split at h
              · rename_i hcc
                obtain ⟨rfl, hcy, hkl, hfit⟩ := hcc
                obtain ⟨h1, h2⟩ := ih _ _ _ _ _ _ _ h
                rw [List.length_set, csz_set (x := .inl (c', fs.set k v)) hq (by show (fs.set k v).length = fs.length; rw [List.length_set])] at h1
                exact ⟨h1, fun D κ l ads0 sz MC MS => ct_put hd hj hcy hq hkl hty hfit (h2 D κ l ads0 sz MC MS)⟩
              · cases h
            · cases h
          · cases h
        · cases h
      · cases h
    · rename_i hd
      split at h
      · rename_i qv i q st'
        split at h
        · rename_i t k rs hq
          split at h
          · rename_i c fs hqv
            split at h
            · rename_i hcc
              obtain ⟨h1, h2⟩ := ih _ _ _ _ _ _ _ h
              rw [List.length_set, csz_set (x := .inr (t, k, cset rs i.toNatClampNeg qv)) hq rfl] at h1
              exact ⟨h1, fun D κ l ads0 sz MC MS => ct_aast hd hq hqv hcc.1 hcc.2 (h2 D κ l ads0 sz MC MS)⟩
            · cases h
          · cases h
        · cases h
      · cases h
    · rename_i idx hd
      split at h
      · rename_i o' i' kk pl hf
        obtain ⟨j, hj⟩ := cfind3 hf
        split at h
        · cases h
        · rename_i d'
          split at h
          · split at h
            · split at h
              · rename_i hw
                obtain ⟨h1, h2⟩ := ih _ _ _ _ _ _ _ h
                exact ⟨h1, fun D κ l ads0 sz MC MS => ct_obj hd hj (by omega) hw (h2 D κ l ads0 sz MC MS)⟩
              · cases h
            · cases h
          · rename_i y2
            split at h
            · rename_i q st' hdr
              split at h
              · rename_i hcc
                split at h
                · rename_i ns2 hr
                  obtain ⟨m1, h3⟩ := ih _ _ _ _ _ _ _ hr
                  obtain ⟨m2, h2⟩ := ih _ _ _ _ _ _ _ h
                  refine ⟨⟨Nat.le_trans m1.1 m2.1, Nat.le_trans m1.2 m2.2⟩, fun D κ l ads0 sz MC MS => ct_ctor (as := (st.take (cnarg y2)).reverse) (d2 := d') hd hj (by rw [List.length_reverse]; exact hcc.1) ?_ hcc.2.1 (Nat.le_refl _) (cC_of hcc.2.2.2 hcc.2.2.1 (fun ads0 sz MC MS => h3 D κ l ads0 sz MC MS)) m1 m2 (h2 D κ l ads0 sz MC MS)⟩
                  rw [List.reverse_reverse, ← hdr, List.take_append_drop]
                · cases h
              · cases h
            · cases h
      · cases h
    · cases h
