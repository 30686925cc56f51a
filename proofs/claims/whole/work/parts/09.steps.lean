/-! ROWS WITH NAMED FACTS, and the lockstep of a function's text with the machine -/
theorem lk_if {c : Prop} {ic : Decidable c} {β : Type} {X Y : Option β} {o : β} (hf : (if c then X else Y) = some o) : (c ∧ X = some o) ∨ (¬ c ∧ Y = some o) := by
  by_cases hc : c
  · rw [if_pos hc] at hf; exact Or.inl ⟨hc, hf⟩
  · rw [if_neg hc] at hf; exact Or.inr ⟨hc, hf⟩
theorem lk_g {c : Prop} {ic : Decidable c} {β : Type} {X : Option β} {o : β} (hf : (if c then X else none) = some o) : c ∧ X = some o := by
  by_cases hc : c
  · rw [if_pos hc] at hf; exact ⟨hc, hf⟩
  · rw [if_neg hc] at hf; cases hf
theorem lk_b {α β : Type} {X : Option α} {k : α → Option β} {o : β} (hf : X.bind k = some o) : ∃ a, X = some a ∧ k a = some o := by
  cases X with
  | none => cases hf
  | some a => exact ⟨a, rfl, hf⟩
/-- a name for a number, for a store -/
def xlet {α β : Type} (v : α) (k : α → β) : β := k v
theorem lk_let {α β : Type} {v : α} {k : α → Option β} {o : β} (hf : xlet v k = some o) : ∃ z, z = v ∧ k z = some o := ⟨v, rfl, hf⟩
/-- out of a loop: the rest of what stands around it -/
def xup {σ β : Type} (X : Option β) : Option (σ ⊕ β) := X.map Sum.inr
theorem lk_up {σ β : Type} {X : Option β} {o : σ ⊕ β} (hf : xup X = some o) : ∃ x, X = some x ∧ o = Sum.inr x := by
  cases X with
  | none => cases hf
  | some x => exact ⟨x, rfl, (Option.some.inj hf).symm⟩
def itn {σ ρ : Type} (step : σ → Option (σ ⊕ ρ)) : Nat → σ → Option ρ
  | 0, _ => none
  | n + 1, s => (step s).bind (fun o => Sum.elim (itn step n) some o)
theorem itn_mono {σ ρ : Type} {step : σ → Option (σ ⊕ ρ)} : ∀ {n m : Nat} {s : σ} {x : ρ}, n ≤ m → itn step n s = some x → itn step m s = some x
  | 0, _, _, _, _, h => by cases h
  | n + 1, 0, _, _, hm, _ => absurd hm (by omega)
  | n + 1, m + 1, s, x, hm, h => by
    obtain ⟨o, h1, h2⟩ := lk_b (show (step s).bind (fun o => Sum.elim (itn step n) some o) = some x from h)
    show (step s).bind (fun o => Sum.elim (itn step m) some o) = some x
    rw [h1]
    cases o with
    | inl s' => exact itn_mono (Nat.le_of_succ_le_succ hm) h2
    | inr r => exact h2
/-- A LOOP: its step over and over, until the step says that it is out -/
noncomputable def whl {σ ρ : Type} (step : σ → Option (σ ⊕ ρ)) (s : σ) : Option ρ :=
  @dite (Option ρ) (∃ q : Nat × ρ, itn step q.1 s = some q.2) (Classical.propDecidable _) (fun h => some h.choose.2) (fun _ => none)
theorem whl_iff {σ ρ : Type} {step : σ → Option (σ ⊕ ρ)} {s : σ} {x : ρ} : whl step s = some x ↔ ∃ n, itn step n s = some x := by
  unfold whl
  constructor
  · intro h
    split at h
    · rename_i hq
      exact ⟨hq.choose.1, by rw [← Option.some.inj h]; exact hq.choose_spec⟩
    · cases h
  · rintro ⟨n, hn⟩
    have hq : ∃ q : Nat × ρ, itn step q.1 s = some q.2 := ⟨(n, x), hn⟩
    rw [dif_pos hq]
    have h1 := hq.choose_spec
    have h2 := itn_mono (Nat.le_max_left n hq.choose.1) hn
    have h3 := itn_mono (Nat.le_max_right n hq.choose.1) h1
    rw [h2] at h3
    exact h3.symm
theorem whl_eq {σ ρ : Type} {step : σ → Option (σ ⊕ ρ)} {s : σ} : whl step s = (step s).bind (fun o => Sum.elim (whl step) some o) := by
  apply Option.ext
  intro x
  constructor
  · intro h
    obtain ⟨n, hn⟩ := whl_iff.mp h
    cases n with
    | zero => cases hn
    | succ n =>
      obtain ⟨o, h1, h2⟩ := lk_b (show (step s).bind (fun o => Sum.elim (itn step n) some o) = some x from hn)
      rw [h1]
      cases o with
      | inl s' => exact whl_iff.mpr ⟨n, h2⟩
      | inr r => exact h2
  · intro h
    obtain ⟨o, h1, h2⟩ := lk_b h
    cases o with
    | inl s' =>
      obtain ⟨n, hn⟩ := whl_iff.mp h2
      refine whl_iff.mpr ⟨n + 1, ?_⟩
      show (step s).bind (fun o => Sum.elim (itn step n) some o) = some x
      rw [h1]
      exact hn
    | inr r =>
      refine whl_iff.mpr ⟨1, ?_⟩
      show (step s).bind (fun o => Sum.elim (itn step 0) some o) = some x
      rw [h1]
      exact h2
/-- a loop with an invariant and a measure comes out, and what it comes out with has Q -/
theorem whl_inv {σ ρ : Type} {step : σ → Option (σ ⊕ ρ)} (I : σ → Prop) (μ : σ → Nat) (Q : ρ → Prop) (hs : ∀ s, I s → (∃ s', step s = some (Sum.inl s') ∧ I s' ∧ μ s' < μ s) ∨ (∃ x, step s = some (Sum.inr x) ∧ Q x)) : ∀ s, I s → ∃ x, whl step s = some x ∧ Q x := by
  have key : ∀ n s, μ s < n → I s → ∃ x, whl step s = some x ∧ Q x := by
    intro n
    induction n with
    | zero => intro s h; exact absurd h (Nat.not_lt_zero _)
    | succ n ih =>
      intro s hm hI
      rcases hs s hI with ⟨s', h1, h2, h3⟩ | ⟨x, h1, h2⟩
      · obtain ⟨x, h4, h5⟩ := ih s' (by omega) h2
        exact ⟨x, by rw [whl_eq, h1]; exact h4, h5⟩
      · exact ⟨x, by rw [whl_eq, h1]; rfl, h2⟩
  exact fun s hI => key (μ s + 1) s (Nat.lt_succ_self _) hI
/-- an index in its row -/
abbrev xib (j : Int32) (n : Nat) : Prop := ¬ (j < 0 ∨ n ≤ j.toNatClampNeg)
theorem xsw_out {a : Int32} {lo hi : Int} (h : ∀ k : Int, lo ≤ k → k ≤ hi → a ≠ Int32.ofInt k) : a.toInt < lo ∨ hi < a.toInt := by
  rcases Int.lt_or_le a.toInt lo with h1 | h1
  · exact Or.inl h1
  · rcases Int.lt_or_le hi a.toInt with h2 | h2
    · exact Or.inr h2
    · exact absurd (Int32.ofInt_toInt a).symm (h _ h1 h2)
section XE
variable {g : xG} {l : Launch} {d y pc o : Nat} {ls ls2 : List (Nat × xV)} {st : List xV} {h h' h2 : xH} {r : Option xV}
theorem xe_istore_n {j : Fin 4} {n : Nat} {a v : Int32} (hd : decode (xcode y) pc = .ok (.istore_n j, 1)) (hm : xmaxL y = n) (hn : (j : Nat) < n) (ev : v = a) (hl : xput ls (j : Nat) (xi v) = ls2) (k : xEv g l d y (pc + 1) ls2 st h r h') : xEv g l d y pc ls (xi a :: st) h r h' := by
  subst ev; subst hl
  exact xs_istore_n hd (by rw [hm]; exact hn) k
theorem xe_istore {j n : Nat} {a v : Int32} (hd : decode (xcode y) pc = .ok (.istore j, 2)) (hm : xmaxL y = n) (hn : j < n) (ev : v = a) (hl : xput ls j (xi v) = ls2) (k : xEv g l d y (pc + 2) ls2 st h r h') : xEv g l d y pc ls (xi a :: st) h r h' := by
  subst ev; subst hl
  exact xs_istore hd (by rw [hm]; exact hn) k
theorem xe_lstore_n {j : Fin 4} {n : Nat} {a v : Int64} (hd : decode (xcode y) pc = .ok (.lstore_n j, 1)) (hm : xmaxL y = n) (hn : (j : Nat) + 1 < n) (ev : v = a) (hl : xput2 ls (j : Nat) (xl v) = ls2) (k : xEv g l d y (pc + 1) ls2 st h r h') : xEv g l d y pc ls (xl a :: st) h r h' := by
  subst ev; subst hl
  exact xs_lstore_n hd (by rw [hm]; exact hn) k
theorem xe_lstore {j n : Nat} {a v : Int64} (hd : decode (xcode y) pc = .ok (.lstore j, 2)) (hm : xmaxL y = n) (hn : j + 1 < n) (ev : v = a) (hl : xput2 ls j (xl v) = ls2) (k : xEv g l d y (pc + 2) ls2 st h r h') : xEv g l d y pc ls (xl a :: st) h r h' := by
  subst ev; subst hl
  exact xs_lstore hd (by rw [hm]; exact hn) k
theorem xe_astore_n {j : Fin 4} {n cN : Nat} {u : Option Nat} (hd : decode (xcode y) pc = .ok (.astore_n j, 1)) (hm : xmaxL y = n) (hn : (j : Nat) < n) (hl : xput ls (j : Nat) (xr cN u) = ls2) (k : xEv g l d y (pc + 1) ls2 st h r h') : xEv g l d y pc ls (xr cN u :: st) h r h' := by
  subst hl
  exact xs_astore_n hd (by rw [hm]; exact hn) k
theorem xe_astore {j n cN : Nat} {u : Option Nat} (hd : decode (xcode y) pc = .ok (.astore j, 2)) (hm : xmaxL y = n) (hn : j < n) (hl : xput ls j (xr cN u) = ls2) (k : xEv g l d y (pc + 2) ls2 st h r h') : xEv g l d y pc ls (xr cN u :: st) h r h' := by
  subst hl
  exact xs_astore hd (by rw [hm]; exact hn) k
theorem xe_iinc {j n : Nat} {z : Int} {a b v : Int32} (hd : decode (xcode y) pc = .ok (.iinc j z, 3)) (hm : xmaxL y = n) (hn : j < n) (hg : xget ls j = some (xi a)) (hz : Int32.ofInt z = b) (ev : v = a + b) (hl : xput ls j (xi v) = ls2) (k : xEv g l d y (pc + 3) ls2 st h r h') : xEv g l d y pc ls st h r h' := by
  subst hl; subst hz
  exact xs_iinc hd hg ev.symm (by rw [hm]; exact hn) k
theorem xe_geti {n idx c k pl i : Nat} (hd : decode (xcode y) pc = .ok (.getfield idx, 3)) (ho : xkey y = o) (hn : xflT[n]? = some (o, idx, c, k, pl)) (hk : (xfk c k).1 = 0) (kk : xEv g l d y (pc + 3) ls (xi (h.1 c k i) :: st) h r h') : xEv g l d y pc ls (xr c (some i) :: st) h r h' := by
  subst ho
  exact xs_geti hd hn hk kk
theorem xe_getl {n idx c k pl i : Nat} (hd : decode (xcode y) pc = .ok (.getfield idx, 3)) (ho : xkey y = o) (hn : xflT[n]? = some (o, idx, c, k, pl)) (hk : (xfk c k).1 = 1) (kk : xEv g l d y (pc + 3) ls (xl (h.2.1 c k i) :: st) h r h') : xEv g l d y pc ls (xr c (some i) :: st) h r h' := by
  subst ho
  exact xs_getl hd hn hk kk
theorem xe_getd {n idx c k pl i f : Nat} (hd : decode (xcode y) pc = .ok (.getfield idx, 3)) (ho : xkey y = o) (hn : xflT[n]? = some (o, idx, c, k, pl)) (hk : (xfk c k).1 = 2 ∧ (xfk c k).2.1 = f) (kk : xEv g l d y (pc + 3) ls (xr f (h.2.2.1 c k i) :: st) h r h') : xEv g l d y pc ls (xr c (some i) :: st) h r h' := by
  subst ho
  exact xs_getd hd hn hk.1 hk.2 kk
theorem xe_getc {n idx c k pl i f a b j : Nat} (hd : decode (xcode y) pc = .ok (.getfield idx, 3)) (ho : xkey y = o) (hn : xflT[n]? = some (o, idx, c, k, pl)) (hk : xfk c k = (3, f, a, b)) (hj : a * i + b = j) (kk : xEv g l d y (pc + 3) ls (xr f (some j) :: st) h r h') : xEv g l d y pc ls (xr c (some i) :: st) h r h' := by
  subst ho
  exact xs_getc hd hn (by rw [hk]) (by rw [hk]) (by rw [hk]; exact hj) kk
theorem xe_puti {n idx c k pl i : Nat} {a : Int32} (hd : decode (xcode y) pc = .ok (.putfield idx, 3)) (ho : xkey y = o) (hn : xflT[n]? = some (o, idx, c, k, pl)) (hk : (xfk c k).1 = 0) (ht : ((xcl c).2.1 k).2.2 = ("I", false)) (eh : h2 = xsI h c k i a) (kk : xEv g l d y (pc + 3) ls st h2 r h') : xEv g l d y pc ls (xi a :: xr c (some i) :: st) h r h' := by
  subst ho; subst eh
  exact xs_puti hd hn hk ht kk
theorem xe_putz {n idx c k pl i : Nat} {a : Int32} (hd : decode (xcode y) pc = .ok (.putfield idx, 3)) (ho : xkey y = o) (hn : xflT[n]? = some (o, idx, c, k, pl)) (hk : (xfk c k).1 = 0) (ht : ((xcl c).2.1 k).2.2 = ("Z", false)) (hz : a = 0 ∨ a = 1) (eh : h2 = xsI h c k i a) (kk : xEv g l d y (pc + 3) ls st h2 r h') : xEv g l d y pc ls (xi a :: xr c (some i) :: st) h r h' := by
  subst ho; subst eh
  exact xs_putz hd hn hk ht hz kk
theorem xe_putl {n idx c k pl i : Nat} {a : Int64} (hd : decode (xcode y) pc = .ok (.putfield idx, 3)) (ho : xkey y = o) (hn : xflT[n]? = some (o, idx, c, k, pl)) (hk : (xfk c k).1 = 1) (ht : ((xcl c).2.1 k).2.2 = ("J", false)) (eh : h2 = xsL h c k i a) (kk : xEv g l d y (pc + 3) ls st h2 r h') : xEv g l d y pc ls (xl a :: xr c (some i) :: st) h r h' := by
  subst ho; subst eh
  exact xs_putl hd hn hk ht kk
theorem xe_putd {n idx c k pl i f : Nat} {u : Option Nat} {C : String} (hd : decode (xcode y) pc = .ok (.putfield idx, 3)) (ho : xkey y = o) (hn : xflT[n]? = some (o, idx, c, k, pl)) (hk : (xfk c k).1 = 2 ∧ (xfk c k).2.1 = f) (ht : ((xcl c).2.1 k).2.2.2 = false ∧ parseFieldDescriptor ((xcl c).2.1 k).2.2.1 = some (.object C)) (eh : h2 = xsR h c k i u) (kk : xEv g l d y (pc + 3) ls st h2 r h') : xEv g l d y pc ls (xr f u :: xr c (some i) :: st) h r h' := by
  subst ho; subst eh
  exact xs_putd hd hn hk.1 hk.2 ht.1 ht.2 kk
theorem xe_iald {c i n e1 e2 : Nat} {j : Int32} (hd : decode (xcode y) pc = .ok (.iaload, 1)) (hc : 13 ≤ c) (ht : xak c = (0, n, e1, e2)) (hin : vp_in j n) (kk : xEv g l d y (pc + 1) ls (xi (h.2.2.2.1 c i j.toNatClampNeg) :: st) h r h') : xEv g l d y pc ls (xi j :: xr c (some i) :: st) h r h' := xs_iald hd hc (by rw [ht]) (by rw [ht]; exact hin) kk
theorem xe_bald {c i n e1 e2 : Nat} {j : Int32} (hd : decode (xcode y) pc = .ok (.baload, 1)) (hc : 13 ≤ c) (ht : xak c = (1, n, e1, e2)) (hin : vp_in j n) (kk : xEv g l d y (pc + 1) ls (xi (h.2.2.2.1 c i j.toNatClampNeg) :: st) h r h') : xEv g l d y pc ls (xi j :: xr c (some i) :: st) h r h' := xs_bald hd hc (by rw [ht]) (by rw [ht]; exact hin) kk
theorem xe_zald {c i n e1 e2 : Nat} {j : Int32} (hd : decode (xcode y) pc = .ok (.baload, 1)) (hc : 13 ≤ c) (ht : xak c = (3, n, e1, e2)) (hin : vp_in j n) (kk : xEv g l d y (pc + 1) ls (xi (h.2.2.2.1 c i j.toNatClampNeg) :: st) h r h') : xEv g l d y pc ls (xi j :: xr c (some i) :: st) h r h' := xs_zald hd hc (by rw [ht]) (by rw [ht]; exact hin) kk
theorem xe_lald {c i n e1 e2 : Nat} {j : Int32} (hd : decode (xcode y) pc = .ok (.laload, 1)) (hc : 13 ≤ c) (ht : xak c = (2, n, e1, e2)) (hin : vp_in j n) (kk : xEv g l d y (pc + 1) ls (xl (h.2.2.2.2 c i j.toNatClampNeg) :: st) h r h') : xEv g l d y pc ls (xi j :: xr c (some i) :: st) h r h' := xs_lald hd hc (by rw [ht]) (by rw [ht]; exact hin) kk
theorem xe_aald {c i n f a t : Nat} {j : Int32} (hd : decode (xcode y) pc = .ok (.aaload, 1)) (hc : 13 ≤ c) (ht : xak c = (t, n, f, a)) (ht2 : 4 ≤ t ∧ t ≤ 6 ∧ a + n ≤ xcnt f) (hin : vp_in j n) (kk : xEv g l d y (pc + 1) ls (xr f (some (a + j.toNatClampNeg)) :: st) h r h') : xEv g l d y pc ls (xi j :: xr c (some i) :: st) h r h' := xs_aald hd hc (by rw [ht]; exact ht2.1) (by rw [ht]; exact ht2.2.1) (by rw [ht]) (by rw [ht]) (by rw [ht]) ht2.2.2 hin kk
theorem xe_alen {c i n t e1 e2 : Nat} {v : Int32} (hd : decode (xcode y) pc = .ok (.arraylength, 1)) (hc : 13 ≤ c) (ht : xak c = (t, n, e1, e2)) (ht2 : t ≤ 6) (hv : Int32.ofNat n = v) (kk : xEv g l d y (pc + 1) ls (xi v :: st) h r h') : xEv g l d y pc ls (xr c (some i) :: st) h r h' := xs_alen hd hc (by rw [ht]; exact ht2) (by rw [ht]) hv kk
theorem xe_iast {c i n e1 e2 : Nat} {j a : Int32} (hd : decode (xcode y) pc = .ok (.iastore, 1)) (hc : 13 ≤ c) (ht : xak c = (0, n, e1, e2)) (hin : vp_in j n) (eh : h2 = xsA h c i (upd (h.2.2.2.1 c i) j.toNatClampNeg a)) (kk : xEv g l d y (pc + 1) ls st h2 r h') : xEv g l d y pc ls (xi a :: xi j :: xr c (some i) :: st) h r h' := by
  subst eh
  exact xs_iast hd hc (by rw [ht]) (by rw [ht]; exact hin) kk
theorem xe_bast {c i n e1 e2 : Nat} {j a : Int32} (hd : decode (xcode y) pc = .ok (.bastore, 1)) (hc : 13 ≤ c) (ht : xak c = (1, n, e1, e2)) (hin : vp_in j n) (eh : h2 = xsA h c i (upd (h.2.2.2.1 c i) j.toNatClampNeg a.toInt8.toInt32)) (kk : xEv g l d y (pc + 1) ls st h2 r h') : xEv g l d y pc ls (xi a :: xi j :: xr c (some i) :: st) h r h' := by
  subst eh
  exact xs_bast hd hc (by rw [ht]) (by rw [ht]; exact hin) kk
theorem xe_zast {c i n e1 e2 : Nat} {j a : Int32} (hd : decode (xcode y) pc = .ok (.bastore, 1)) (hc : 13 ≤ c) (ht : xak c = (3, n, e1, e2)) (hin : vp_in j n) (hz : a = 0 ∨ a = 1) (eh : h2 = xsA h c i (upd (h.2.2.2.1 c i) j.toNatClampNeg a)) (kk : xEv g l d y (pc + 1) ls st h2 r h') : xEv g l d y pc ls (xi a :: xi j :: xr c (some i) :: st) h r h' := by
  subst eh
  exact xs_zast hd hc (by rw [ht]) (by rw [ht]; exact hin) hz kk
theorem xe_last {c i n e1 e2 : Nat} {j : Int32} {a : Int64} (hd : decode (xcode y) pc = .ok (.lastore, 1)) (hc : 13 ≤ c) (ht : xak c = (2, n, e1, e2)) (hin : vp_in j n) (eh : h2 = xsB h c i (vp_updL (h.2.2.2.2 c i) j.toNatClampNeg a)) (kk : xEv g l d y (pc + 1) ls st h2 r h') : xEv g l d y pc ls (xl a :: xi j :: xr c (some i) :: st) h r h' := by
  subst eh
  exact xs_last hd hc (by rw [ht]) (by rw [ht]; exact hin) kk
theorem xe_copy {c i c2 i2 idx n1 n2 e1 e2 e3 e4 : Nat} {sp dp n : Int32} (hd : decode (xcode y) pc = .ok (.invokestatic idx, 3)) (ho : xkey y = o) (hm : Cond.methodLink (xon o) idx arraycopyName ∈ lw_tbl) (hm2 : Cond.native arraycopyName ∈ lw_tbl ∧ Cond.static arraycopyName ∈ lw_tbl ∧ Cond.initialized "java/lang/System" ∈ lw_tbl) (hc : 13 ≤ c) (ht : xak c = (0, n1, e1, e2)) (hc2 : 13 ≤ c2) (ht2 : xak c2 = (0, n2, e3, e4)) (h1 : ¬ sp < 0 ∧ ¬ dp < 0 ∧ ¬ n < 0 ∧ sp.toNatClampNeg + n.toNatClampNeg ≤ n1 ∧ dp.toNatClampNeg + n.toNatClampNeg ≤ n2) (hw : (st.map xcat).sum ≤ 8) (hdd : 1 ≤ d) (eh : h2 = xsA h c2 i2 (va_cpy (h.2.2.2.1 c i) (h.2.2.2.1 c2 i2) sp.toNatClampNeg dp.toNatClampNeg n.toNatClampNeg))
    (kk : xEv g l d y (pc + 3) ls st h2 r h') : xEv g l d y pc ls (xi n :: xi dp :: xr c2 (some i2) :: xi sp :: xr c (some i) :: st) h r h' := by
  subst ho; subst eh
  exact xs_copy hd hm hm2 hc (by rw [ht]) hc2 (by rw [ht2]) h1.1 h1.2.1 h1.2.2.1 (by rw [ht]; exact h1.2.2.2.1) (by rw [ht2]; exact h1.2.2.2.2) hw hdd kk
theorem xe_callv {n idx y2 pl c i d2 : Nat} {as st0 : List xV} {r2 : Option xV} (hd : decode (xcode y) pc = .ok (.invokevirtual idx, 3)) (ho : xkey y = o) (hn : xmlT[n]? = some (o, idx, y2, pl)) (hs : xstat y2 = false) (hc : c < 13) (hcn : (xcl c).1 = (xname y2).cls) (hst : st0 = as.reverse ++ xr c (some i) :: st) (hlen : as.length = xnarg y2) (hw : (st.map xcat).sum ≤ 8) (hdd : d2 + 1 ≤ d) (C : xC g l d2 y2 (xr c (some i) :: as) h r2 h2) (k : xEv g l d y (pc + 3) ls (r2.toList ++ st) h2 r h') : xEv g l d y pc ls st0 h r h' := by
  subst ho
  exact xs_callv hd hn hs hc hcn hst hlen hw hdd C k
theorem xe_calls {n idx y2 pl d2 : Nat} {as st0 : List xV} {r2 : Option xV} (hd : decode (xcode y) pc = .ok (.invokestatic idx, 3)) (ho : xkey y = o) (hn : xmlT[n]? = some (o, idx, y2, pl)) (hs : xstat y2 = true) (hst : st0 = as.reverse ++ st) (hlen : as.length = xnarg y2) (hw : (st.map xcat).sum ≤ 8) (hdd : d2 + 1 ≤ d) (C : xC g l d2 y2 as h r2 h2) (k : xEv g l d y (pc + 3) ls (r2.toList ++ st) h2 r h') : xEv g l d y pc ls st0 h r h' := by
  subst ho
  exact xs_calls hd hn hs hst hlen hw hdd C k
theorem xe_zret {a : Int32} (hd : decode (xcode y) pc = .ok (.ireturn, 1)) (hz : a = 0 ∨ a = 1) (hr : xret y = some .boolean) : xEv g l d y pc ls [xi a] h (some (xi a)) h :=
  xs_zret hd (by rcases hz with rfl | rfl <;> rfl) hr
end XE
