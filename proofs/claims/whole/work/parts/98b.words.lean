/-! PURE: words and numbers of texts (the rows wb_.. began as kit/laws/BITS.to-paste) -/
theorem wb_tb (n : Nat) : (lN n).toBitVec = BitVec.ofNat 64 n := rfl
theorem wb_inj {a b : Int64} (h : a.toBitVec = b.toBitVec) : a = b := Int64.toBitVec_inj.mp h
theorem wb_c : ∀ k, k < 64 → ((nI k).toInt64 &&& 63) = lN k := by decide +kernel
theorem wb_sm : ∀ k, k < 64 → (BitVec.ofNat 64 k).smod 64 = BitVec.ofNat 64 k := by decide +kernel
theorem wb_shl (n : Nat) {k : Nat} (hk : k < 64) : lN n <<< ((nI k).toInt64 &&& 63) = lN (n * 2 ^ k) := by
  rw [wb_c k hk]
  apply wb_inj
  rw [Int64.toBitVec_shiftLeft, wb_tb, wb_tb, wb_tb, wb_sm k hk]
  apply BitVec.eq_of_toNat_eq
  rw [BitVec.shiftLeft_eq', BitVec.toNat_shiftLeft, BitVec.toNat_ofNat, BitVec.toNat_ofNat, BitVec.toNat_ofNat, Nat.mod_eq_of_lt (show k < 2 ^ 64 by omega), Nat.shiftLeft_eq, Nat.mul_mod, Nat.mod_mod, ← Nat.mul_mod]
theorem wb_or {a b : Nat} (ha : a < 2 ^ 64) (hb : b < 2 ^ 64) : lN a ||| lN b = lN (a ||| b) := by
  apply wb_inj
  rw [Int64.toBitVec_or, wb_tb, wb_tb, wb_tb]
  apply BitVec.eq_of_toNat_eq
  rw [BitVec.toNat_or, BitVec.toNat_ofNat, BitVec.toNat_ofNat, BitVec.toNat_ofNat, Nat.mod_eq_of_lt ha, Nat.mod_eq_of_lt hb, Nat.mod_eq_of_lt (Nat.or_lt_two_pow ha hb)]

def wds : List (List Nat) := [[115, 111, 114, 114, 111, 119], [119, 101, 105, 103, 104, 116], [116, 105, 109, 101], [100, 101, 101, 112], [111, 118, 101, 114], [109, 97, 110, 121], [108, 111, 111, 115, 101], [108, 101, 102, 116], [108, 111, 97, 100], [114, 101, 115, 116], [109, 105, 110, 117, 116, 101], [115, 116, 101, 112], [116, 114, 117, 103], [117, 110, 100, 101, 114], [99, 97, 114, 114, 105, 101, 114], [108, 105, 102, 116], [105, 102], [111, 114], [97, 110, 100], [110, 111, 116]]
def wI (i : Nat) : List Nat := wds.getD i []
def wSt : List Nat := [0, 7, 14, 19, 24, 29, 34, 40, 45, 50, 55, 62, 67, 72, 78, 86, 91, 94, 97, 101, 105]
def wEn : List Nat := [6, 13, 18, 23, 28, 33, 39, 44, 49, 54, 61, 66, 71, 77, 85, 90, 93, 96, 100, 104]
def cntW (k : Nat) : Nat := (wEn.filter (fun e => decide (e < k))).length
def frmW (k : Nat) : Nat := wSt.getD (cntW k) 0
theorem xW_len : xWords.length = 104 := by decide +kernel
theorem w_f1 : ∀ k, k < 104 → xwc k = 32 → cntW (k + 1) = cntW k + 1 ∧ frmW (k + 1) = k + 1 ∧ wEn.getD (cntW k) 0 = k ∧ cntW k < 20 := by decide +kernel
theorem w_f2 : ∀ k, k < 104 → ¬ xwc k = 32 → cntW (k + 1) = cntW k ∧ frmW (k + 1) = frmW k := by decide +kernel
theorem w_f3 : cntW 104 = 19 ∧ wEn.getD 19 0 = 104 ∧ cntW 105 = 20 ∧ frmW 105 = 105 ∧ cntW 0 = 0 ∧ frmW 0 = 0 := by decide +kernel
theorem w_f4 : ∀ i, i < 20 → wEn.getD i 0 = wSt.getD i 0 + (wI i).length ∧ wEn.getD i 0 ≤ 104 ∧ 1 ≤ (wI i).length ∧ (wI i).length ≤ 7 ∧ ∀ j, j < (wI i).length → xwc (wSt.getD i 0 + j) = nI ((wI i).getD j 0) ∧ 97 ≤ (wI i).getD j 0 ∧ (wI i).getD j 0 ≤ 122 := by decide +kernel
/-- n bytes from p are this word -/
def eqw (B : Nat → Nat) (p n : Nat) (w : List Nat) : Prop := n = w.length ∧ ∀ j, j < n → B (p + j) = w.getD j 0
theorem w_ne : ∀ i, i < 20 → ∀ j, j < 20 → wI i = wI j → i = j := by decide +kernel
theorem eqw_u {B : Nat → Nat} {p n i j : Nat} (hi : i < 20) (hj : j < 20) (a : eqw B p n (wI i)) (b : eqw B p n (wI j)) : i = j := by
  apply w_ne i hi j hj
  apply List.ext_getElem
  · rw [← a.1, ← b.1]
  · intro k h1 h2
    have e1 := a.2 k (by rw [a.1]; exact h1)
    have e2 := b.2 k (by rw [a.1]; exact h1)
    rw [e1, List.getD_eq_getElem?_getD, List.getD_eq_getElem?_getD, List.getElem?_eq_getElem h1, List.getElem?_eq_getElem h2] at e2
    exact e2
theorem c_isSpelt {h : xH} {t p n i : Nat} {B : Nat → Nat} (hc : ctx h t B) (hp : p + n ≤ t) (hi : i < 20) (hn : n = (wI i).length) : ∃ b : Bool, f_Tape_isSpelt (nI p) (nI (wSt.getD i 0)) (nI (wEn.getD i 0)) h = some (if b then 1 else 0) ∧ (b = true ↔ eqw B p n (wI i)) := by
  obtain ⟨w1, w2, w3, w4, w5⟩ := w_f4 i hi
  have t4 := hc.2.1
  have key := whl_cntE (step := fun s : Int32 => f_Tape_isSpelt_s3 (nI p) (nI (wSt.getD i 0)) (nI (wEn.getD i 0)) s h) n (fun j s => s = nI (wSt.getD i 0 + j) ∧ ∀ j', j' < j → B (p + j') = (wI i).getD j' 0) (fun x => ∃ b : Bool, x = (if b then 1 else 0) ∧ (b = true ↔ eqw B p n (wI i))) ?_ ?_ (nI (wSt.getD i 0)) ⟨rfl, fun j' hj => absurd hj (by omega)⟩
  · obtain ⟨x, e, b, rfl, q⟩ := key
    exact ⟨b, e, q⟩
  · rintro j hj s ⟨e1, l⟩
    have e1 : s = nI (wSt.getD i 0 + j) := e1
    subst e1
    obtain ⟨x1, x2, x3⟩ := w5 j (by omega)
    have ei : (nI p + nI (wSt.getD i 0 + j)) - nI (wSt.getD i 0) = nI (p + j) := by
      rw [nI_add, pk_sub (by omega)]
      exact congrArg nI (by omega)
    have cx : xwc (nI (wSt.getD i 0 + j)).toNatClampNeg = nI ((wI i).getD j 0) := by rw [nI_clamp (by omega)]; exact x1
    have b8 := (hc.2.2 (p + j) (by omega)).2
    have run : f_Tape_isSpelt_s3 (nI p) (nI (wSt.getD i 0)) (nI (wEn.getD i 0)) (nI (wSt.getD i 0 + j)) h = (if nI ((wI i).getD j 0) = nI (B (p + j)) then some (Sum.inl (nI (wSt.getD i 0 + (j + 1)))) else some (Sum.inr 0)) := by
      unfold f_Tape_isSpelt_s3
      rw [if_neg (nI_ge (by omega) (by omega)), xW_len, if_neg (show ¬ Int32.ofNat 104 ≤ nI (wSt.getD i 0 + j) from nI_ge (b := 104) (by omega) (by decide)), if_pos (xibN (by omega) (by decide)), ei, c_byteAt hc (by omega), Option.bind_some, cx]
      unfold cdB
      rw [if_pos (show p + j < t by omega), xlet_e, nI_1]
      rfl
    by_cases q : B (p + j) = (wI i).getD j 0
    · left
      refine ⟨nI (wSt.getD i 0 + (j + 1)), by show f_Tape_isSpelt_s3 _ _ _ (nI (wSt.getD i 0 + j)) h = _; rw [run, q, if_pos rfl], rfl, fun j' hj' => ?_⟩
      by_cases z : j' = j
      · rw [z]; exact q
      · exact l j' (by omega)
    · right
      refine ⟨0, by show f_Tape_isSpelt_s3 _ _ _ (nI (wSt.getD i 0 + j)) h = _; rw [run, if_neg (fun z => q ((nI_eq (by omega) (by omega)).mp z).symm)], false, rfl, ⟨fun z => by (cases z), fun z => absurd (z.2 j hj) q⟩⟩
  · rintro s ⟨e1, l⟩
    have e1 : s = nI (wSt.getD i 0 + n) := e1
    subst e1
    refine ⟨1, ?_, true, rfl, ⟨fun _ => ⟨hn, l⟩, fun _ => rfl⟩⟩
    show f_Tape_isSpelt_s3 _ _ _ (nI (wSt.getD i 0 + n)) h = _
    unfold f_Tape_isSpelt_s3
    rw [if_pos (nI_le (by omega) (by omega))]
/-- which word these bytes are, as the class tells it -/
def wvR (B : Nat → Nat) (p n : Nat) (v : Int32) : Prop := (v = -1 ∧ ∀ i, i < 20 → ¬ eqw B p n (wI i)) ∨ ∃ i, i < 20 ∧ v = nI i ∧ eqw B p n (wI i)
theorem c_wordAt {h : xH} {t p e : Nat} {B : Nat → Nat} (hc : ctx h t B) (hp : p ≤ e) (he : e ≤ t) : ∃ v, f_Tape_wordAt (nI p) (nI e) h = some v ∧ wvR B p (e - p) v := by
  have t4 := hc.2.1
  obtain ⟨f31, f32, f33, f34, f35, f36⟩ := w_f3
  have b40 : ∀ k i, i < 20 → cntW k = i → frmW k = wSt.getD i 0 → wEn.getD i 0 = k → cntW (k + 1) = i + 1 → frmW (k + 1) = k + 1 → (eqw B p (e - p) (wI i) ∧ f_Tape_wordAt_b40 (nI p) (nI e) (nI (cntW k)) (nI (frmW k)) (nI k) h = some (Sum.inr (nI i))) ∨ (¬ eqw B p (e - p) (wI i) ∧ f_Tape_wordAt_b40 (nI p) (nI e) (nI (cntW k)) (nI (frmW k)) (nI k) h = some (Sum.inl (nI (cntW (k + 1)), nI (frmW (k + 1)), nI (k + 1)))) := by
    intro k i hi ec ef ee ec1 ef1
    obtain ⟨w1, w2, w3, w4, w5⟩ := w_f4 i hi
    rw [ec, ef, ec1, ef1]
    have b65 : f_Tape_wordAt_b65 (nI p) (nI e) (nI i) (nI k) h = some (Sum.inl (nI (i + 1), nI (k + 1), nI (k + 1))) := by
      unfold f_Tape_wordAt_b65 f_Tape_wordAt_b74
      rw [xlet_e, xlet_e, xlet_e, nI_1, nI_1]
    unfold f_Tape_wordAt_b40
    rw [b65, pk_sub (by omega), pk_sub (by omega)]
    by_cases q : k - wSt.getD i 0 = e - p
    · obtain ⟨b, eb, hb⟩ := c_isSpelt (p := p) (n := e - p) hc (by omega) hi (by omega)
      rw [ee] at eb
      rw [if_pos (by rw [q]), eb, Option.bind_some, sel_e]
      cases b with
      | true => exact Or.inl ⟨hb.mp rfl, if_pos rfl⟩
      | false => exact Or.inr ⟨fun z => by (have := hb.mpr z; cases this), if_neg (by decide)⟩
    · right
      exact ⟨fun z => q (by have := z.1; omega), if_neg (fun z => q ((nI_eq (by omega) (by omega)).mp z))⟩
  have key := whl_cntE (step := fun s : Int32 × Int32 × Int32 => f_Tape_wordAt_s8 (nI p) (nI e) s.1 s.2.1 s.2.2 h) 105 (fun k s => s = (nI (cntW k), nI (frmW k), nI k) ∧ ∀ i, i < cntW k → ¬ eqw B p (e - p) (wI i)) (fun v => wvR B p (e - p) v) ?_ ?_ (0, 0, 0) ⟨by rw [f35, f36]; rfl, fun i hi => by rw [f35] at hi; exact absurd hi (by omega)⟩
  · obtain ⟨v, ev, q⟩ := key
    exact ⟨v, ev, q⟩
  · rintro k hk s ⟨e1, l⟩
    subst e1
    show (∃ s', f_Tape_wordAt_s8 (nI p) (nI e) (nI (cntW k)) (nI (frmW k)) (nI k) h = some (Sum.inl s') ∧ _) ∨ ∃ x, f_Tape_wordAt_s8 (nI p) (nI e) (nI (cntW k)) (nI (frmW k)) (nI k) h = some (Sum.inr x) ∧ _
    have fin : ∀ i, i < 20 → cntW k = i → frmW k = wSt.getD i 0 → wEn.getD i 0 = k → cntW (k + 1) = i + 1 → frmW (k + 1) = k + 1 → f_Tape_wordAt_s8 (nI p) (nI e) (nI (cntW k)) (nI (frmW k)) (nI k) h = f_Tape_wordAt_b40 (nI p) (nI e) (nI (cntW k)) (nI (frmW k)) (nI k) h → ((∃ s', f_Tape_wordAt_s8 (nI p) (nI e) (nI (cntW k)) (nI (frmW k)) (nI k) h = some (Sum.inl s') ∧ s' = (nI (cntW (k + 1)), nI (frmW (k + 1)), nI (k + 1)) ∧ ∀ i, i < cntW (k + 1) → ¬ eqw B p (e - p) (wI i)) ∨ ∃ x, f_Tape_wordAt_s8 (nI p) (nI e) (nI (cntW k)) (nI (frmW k)) (nI k) h = some (Sum.inr x) ∧ wvR B p (e - p) x) := by
      intro i hi ec ef ee ec1 ef1 er
      rcases b40 k i hi ec ef ee ec1 ef1 with ⟨y1, y2⟩ | ⟨y1, y2⟩
      · exact Or.inr ⟨nI i, er.trans y2, Or.inr ⟨i, hi, rfl, y1⟩⟩
      · refine Or.inl ⟨_, er.trans y2, rfl, fun i' hi' => ?_⟩
        rw [ec1] at hi'
        by_cases z : i' = i
        · rw [z]; exact y1
        · exact l i' (by omega)
    by_cases k4 : k = 104
    · subst k4
      refine fin 19 (by decide) f31 (by unfold frmW; rw [f31]) f32 f33 f34 ?_
      unfold f_Tape_wordAt_s8
      rw [xW_len, if_neg (show ¬ Int32.ofNat 104 < nI 104 from nI_nlt (Nat.le_refl _) (by decide)), if_pos (show nI 104 = Int32.ofNat 104 from rfl)]
    · have k4 : k < 104 := by omega
      have st : f_Tape_wordAt_s8 (nI p) (nI e) (nI (cntW k)) (nI (frmW k)) (nI k) h = (if xwc k = 32 then f_Tape_wordAt_b40 (nI p) (nI e) (nI (cntW k)) (nI (frmW k)) (nI k) h else f_Tape_wordAt_b74 (nI p) (nI e) (nI (cntW k)) (nI (frmW k)) (nI k) h) := by
        have cx : xwc (nI k).toNatClampNeg = xwc k := by rw [nI_clamp (by omega)]
        unfold f_Tape_wordAt_s8
        rw [xW_len, if_neg (show ¬ Int32.ofNat 104 < nI k from nI_nlt (b := k) (a := 104) (by omega) (by decide)), if_neg (show ¬ nI k = Int32.ofNat 104 from fun z => by have := (nI_eq (b := 104) (by omega) (by decide)).mp z; omega), if_pos (xibN k4 (by decide)), cx]
      by_cases q : xwc k = 32
      · obtain ⟨g1, g2, g3, g4⟩ := w_f1 k k4 q
        exact fin (cntW k) g4 rfl rfl g3 g1 g2 (by rw [st, if_pos q])
      · obtain ⟨g1, g2⟩ := w_f2 k k4 q
        left
        refine ⟨_, by rw [st, if_neg q]; unfold f_Tape_wordAt_b74; rw [xlet_e, nI_1], by rw [g1, g2], fun i hi => l i (by rw [← g1]; exact hi)⟩
  · rintro s ⟨e1, l⟩
    subst e1
    refine ⟨-1, ?_, Or.inl ⟨rfl, fun i hi => l i (by rw [f33]; exact hi)⟩⟩
    show f_Tape_wordAt_s8 (nI p) (nI e) (nI (cntW 105)) (nI (frmW 105)) (nI 105) h = _
    unfold f_Tape_wordAt_s8
    rw [xW_len, if_pos (by decide)]
/-! the reference's words are numbers -/
def pkF (B : Nat → Nat) (p : Nat) : Nat → Nat
  | 0 => 0
  | n + 1 => pkF B p n * 256 + B (p + n)
theorem pkF_lt {B : Nat → Nat} {p : Nat} : ∀ {n : Nat}, (∀ j, j < n → B (p + j) < 256) → pkF B p n < 256 ^ n
  | 0, _ => by show 0 < 1; decide
  | n + 1, h => by
    have ih := pkF_lt (B := B) (p := p) (n := n) (fun j hj => h j (by omega))
    have := h n (by omega)
    show pkF B p n * 256 + B (p + n) < 256 ^ (n + 1)
    rw [Nat.pow_succ]
    omega
theorem pkF_pos {B : Nat → Nat} {p n : Nat} (h : 0 < B (p + n)) : 0 < pkF B p (n + 1) := by
  show 0 < pkF B p n * 256 + B (p + n)
  omega
theorem pk_inj {B W : Nat → Nat} {p : Nat} : ∀ {n m : Nat}, (∀ j, j < n → 0 < B (p + j) ∧ B (p + j) < 256) → (∀ j, j < m → 0 < W (0 + j) ∧ W (0 + j) < 256) → pkF B p n = pkF W 0 m → n = m ∧ ∀ j, j < n → B (p + j) = W (0 + j)
  | 0, 0, _, _, _ => ⟨rfl, fun j hj => absurd hj (by omega)⟩
  | 0, m + 1, _, h2, e => by
    have := pkF_pos (B := W) (p := 0) (n := m) (h2 m (by omega)).1
    have e : 0 = pkF W 0 (m + 1) := e
    omega
  | n + 1, 0, h1, _, e => by
    have := pkF_pos (B := B) (p := p) (n := n) (h1 n (by omega)).1
    have e : pkF B p (n + 1) = 0 := e
    omega
  | n + 1, m + 1, h1, h2, e => by
    have b1 := (h1 n (by omega)).2
    have b2 := (h2 m (by omega)).2
    have e : pkF B p n * 256 + B (p + n) = pkF W 0 m * 256 + W (0 + m) := e
    obtain ⟨x, y⟩ := pk_inj (n := n) (m := m) (fun j hj => h1 j (by omega)) (fun j hj => h2 j (by omega)) (by omega)
    subst x
    refine ⟨rfl, fun j hj => ?_⟩
    by_cases z : j = n
    · subst z; omega
    · exact y j (by omega)
def pkW (i : Nat) : Nat := pkF (fun j => (wI i).getD j 0) 0 (wI i).length
theorem pkF_c {B W : Nat → Nat} {p : Nat} : ∀ {n : Nat}, (∀ j, j < n → B (p + j) = W (0 + j)) → pkF B p n = pkF W 0 n
  | 0, _ => rfl
  | n + 1, h => by
    show pkF B p n * 256 + B (p + n) = pkF W 0 n * 256 + W (0 + n)
    rw [pkF_c (fun j hj => h j (by omega)), h n (by omega)]
theorem pkW_lt : ∀ i, i < 20 → pkW i < 2 ^ 62 := by decide +kernel
/-- the word that stands at p -/
def isWd (B : Nat → Nat) (t p i : Nat) : Prop := eqw B p (rn isLB B t p - p) (wI i)
theorem m_isWord {h : xH} {t q i : Nat} {B : Nat → Nat} {c : Int64} (hm : mat h t B q) (hi : i < 20) (hc : c = lN (pkW i)) : f_M_isWord c h = some (ind (isWd B t (rn isSB B t q) i), xsI h 12 8 0 (nI (rn isSB B t q))) := by
  obtain ⟨p, hp⟩ : ∃ p, p = rn isSB B t q := ⟨_, rfl⟩
  have pt : p ≤ t := by rw [hp]; exact rn_le q hm.2.2
  have t4 := hm.1.2.1
  rw [← hp]
  have hg := mat_s hm pt
  obtain ⟨g, eg⟩ : ∃ g, g = xsI h 12 8 0 (nI p) := ⟨_, rfl⟩
  rw [← eg] at hg
  have run0 : f_M_isWord c h = f_M_isWord_l10 c 0 0 g := by
    show (f_M_see h).bind (fun q3 => f_M_isWord_l10 c 0 0 q3.2) = _
    rw [m_see hm, Option.bind_some, ← hp, eg]
  rw [run0, ← eg]
  obtain ⟨e, he⟩ : ∃ e, e = rn isLB B t p := ⟨_, rfl⟩
  have pe : p ≤ e := by rw [he]; exact rn_ge p
  have et : e ≤ t := by rw [he]; exact rn_le p pt
  have inL : ∀ j, p ≤ j → j < e → j < t ∧ 97 ≤ B j ∧ B j ≤ 122 := fun j h1 h2 => by
    have := ltB_t.mp (rn_all (P := isLB) (B := B) (t := t) p j h1 (by rw [← he]; exact h2))
    exact ⟨this.1, of_decide_eq_true this.2⟩
  have key := whl_cntE (step := fun s : Int64 × Int32 => f_M_isWord_s10 c s.1 s.2 g) (e - p) (fun k s => s.2 = nI k ∧ (k ≤ 7 → s.1 = lN (pkF B p k))) (fun x => x = (ind (isWd B t p i), g)) ?_ ?_ (0, 0) ⟨nI_0.symm, fun _ => rfl⟩
  · obtain ⟨x, ex, rfl⟩ := key
    exact ex
  · rintro k hk ⟨s1, s2⟩ ⟨e1, e2⟩
    have e1 : s2 = nI k := e1
    subst e1
    have e2 : k ≤ 7 → s1 = lN (pkF B p k) := e2
    obtain ⟨x1, x2, x3⟩ := inL (p + k) (by omega) (by omega)
    have lk : ltB isLB B t (p + k) = true := ltB_t.mpr ⟨x1, decide_eq_true ⟨x2, x3⟩⟩
    left
    have s0 : f_M_isWord_s10 c s1 (nI k) g = (if (8 : Int32) ≤ nI k then some (Sum.inl (s1, nI (k + 1))) else some (Sum.inl ((s1 <<< (((8 : Int32)).toInt64 &&& 63)) ||| (g.2.2.2.1 47 0 (p + k)).toInt64, nI (k + 1)))) := by
      unfold f_M_isWord_s10 f_M_isWord_b50
      rw [hg.2.1, nI_add, m_isLetter hg.1 (by omega), Option.bind_some, sel_e, if_pos lk, if_pos (xibN (by omega) (by decide)), nI_clamp (by omega), xlet_e, xlet_e, xlet_e, nI_1]
    by_cases k8 : 8 ≤ k
    · exact ⟨(s1, nI (k + 1)), by show f_M_isWord_s10 c s1 (nI k) g = _; rw [s0, if_pos (show (8 : Int32) ≤ nI k from nI_le (a := 8) k8 (by omega))], rfl, fun z => by omega⟩
    · refine ⟨_, by show f_M_isWord_s10 c s1 (nI k) g = _; rw [s0, if_neg (show ¬ (8 : Int32) ≤ nI k from nI_ge (b := 8) (by omega) (by decide))], rfl, fun z => ?_⟩
      show (s1 <<< (((8 : Int32)).toInt64 &&& 63)) ||| (g.2.2.2.1 47 0 (p + k)).toInt64 = lN (pkF B p k * 256 + B (p + k))
      obtain ⟨y1, y2⟩ := hg.1.2.2 (p + k) x1
      have eb : g.2.2.2.1 47 0 (p + k) = nI (B (p + k)) := (sB_eq y1 (by omega)).mpr y2
      have lt := pkF_lt (B := B) (p := p) (n := k) (fun j hj => by have := inL (p + j) (by omega) (by omega); omega)
      have lt6 : pkF B p k < 256 ^ 6 := Nat.lt_of_lt_of_le lt (Nat.pow_le_pow_right (by decide) (by omega))
      have lt6 : pkF B p k < 281474976710656 := lt6
      rw [e2 (by omega), eb, nI_l (by omega)]
      have sh : lN (pkF B p k) <<< (((8 : Int32)).toInt64 &&& 63) = lN (pkF B p k * 256) := wb_shl (pkF B p k) (k := 8) (by decide)
      rw [sh, wb_or (by omega) (by omega)]
      apply congrArg lN
      have := Nat.shiftLeft_add_eq_or_of_lt (i := 8) (b := B (p + k)) (show B (p + k) < 2 ^ 8 by omega) (pkF B p k)
      rw [Nat.shiftLeft_eq] at this
      exact this.symm
  · rintro ⟨s1, s2⟩ ⟨e1, e2⟩
    have e1 : s2 = nI (e - p) := e1
    subst e1
    have e2 : e - p ≤ 7 → s1 = lN (pkF B p (e - p)) := e2
    have nl : ¬ ltB isLB B t e = true := by rw [he]; exact rn_end p
    obtain ⟨w1, w2, w3, w4, w5⟩ := w_f4 i hi
    refine ⟨_, ?_, rfl⟩
    show f_M_isWord_s10 c s1 (nI (e - p)) g = _
    have s0 : f_M_isWord_s10 c s1 (nI (e - p)) g = xup (f_M_isWord_b56 c s1 (nI (e - p)) g) := by
      unfold f_M_isWord_s10
      rw [hg.2.1, nI_add, show p + (e - p) = e by omega, m_isLetter hg.1 (by omega), Option.bind_some, sel_e, if_neg nl]
    rw [s0]
    unfold f_M_isWord_b56
    by_cases z0 : e - p = 0
    · rw [z0, if_pos (by decide), ind_f]
      · rfl
      · intro y
        have := y.1
        rw [← he] at this
        omega
    · rw [if_neg (nI_nle (by omega) (by omega))]
      by_cases z8 : 8 ≤ e - p
      · rw [if_pos (show (8 : Int32) ≤ nI (e - p) from nI_le (a := 8) z8 (by omega)), ind_f]
        · rfl
        · intro y
          have := y.1
          rw [← he] at this
          omega
      · rw [if_neg (show ¬ (8 : Int32) ≤ nI (e - p) from nI_ge (b := 8) (by omega) (by decide)), e2 (by omega), hc]
        have lt := pkF_lt (B := B) (p := p) (n := e - p) (fun j hj => by have := inL (p + j) (by omega) (by omega); omega)
        have lt7 : pkF B p (e - p) < 256 ^ 7 := Nat.lt_of_lt_of_le lt (Nat.pow_le_pow_right (by decide) (by omega))
        have lt7 : pkF B p (e - p) < 72057594037927936 := lt7
        have lw := pkW_lt i hi
        have iff : lN (pkF B p (e - p)) = lN (pkW i) ↔ isWd B t p i := by
          rw [pk_lEQ (by omega) (by omega)]
          unfold isWd
          rw [← he]
          constructor
          · intro y
            have := pk_inj (n := e - p) (m := (wI i).length) (W := fun j => (wI i).getD j 0) (fun j hj => by have := inL (p + j) (by omega) (by omega); omega) (fun j hj => by have := w5 j hj; show 0 < (wI i).getD (0 + j) 0 ∧ (wI i).getD (0 + j) 0 < 256; rw [Nat.zero_add]; omega) y
            exact ⟨this.1, fun j hj => by have := this.2 j hj; rw [this, Nat.zero_add]⟩
          · intro y
            unfold pkW
            rw [← y.1]
            exact pkF_c (fun j hj => by rw [y.2 j hj, Nat.zero_add])
        by_cases y : isWd B t p i
        · rw [if_pos ((lg_cmp_eq _ _).mpr (iff.mpr y)), ind_t y]; rfl
        · rw [if_neg (fun u => y (iff.mp ((lg_cmp_eq _ _).mp u))), ind_f y]; rfl
