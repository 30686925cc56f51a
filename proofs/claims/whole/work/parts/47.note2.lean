/-! PURE: note -/
theorem rdI_3 {h : xH} {c k i : Nat} {v : Int32} {c' k' i' : Nat} (hn : ¬ (c' = c ∧ k' = k ∧ i' = i)) : (xsI h c k i v).1 c' k' i' = h.1 c' k' i' := by
  by_cases hk : c' = c ∧ k' = k
  · obtain ⟨rfl, rfl⟩ := hk
    exact rdI_i (fun z => hn ⟨rfl, rfl, z⟩)
  · exact rdI hk
/-- the store of the class, of the reference behind a note -/
def ntC (h : xH) (c : Nat) (a b : Int32) : xH := xsI (xsA (xsA h 20 0 (upd (h.2.2.2.1 20 0) c a)) 21 0 (upd (h.2.2.2.1 21 0) c b)) 4 4 0 (nI (c + 1))
def ntV (V : Nat → Int32) (c : Nat) (a b : Int32) : Nat → Int32 := upd (upd (upd V (80 + 2 * c) a) (81 + 2 * c) b) 100 (nI (c + 1))
theorem c_note {h : xH} {c : Nat} {a b : Int32} (hc : h.1 4 4 0 = nI c) (c10 : c < 10) : f_B_note_b75 a b h = some (nI (c + 1), ntC h c a b) := by
  have x10 : xib (nI c) 10 := xibN c10 (by decide)
  have cc : (nI c).toNatClampNeg = c := nI_clamp (by omega)
  have ek : f_Scene_keepNote 0 a b h = some (ntC h c a b) := by
    show (if h.1 4 4 0 < 0 then some h else if (10 : Int32) ≤ h.1 4 4 0 then some h else if xib (h.1 4 4 0) 10 then (if xib (h.1 4 4 0) 10 then some (xsI (xsA (xsA h 20 0 (upd (h.2.2.2.1 20 0) (h.1 4 4 0).toNatClampNeg a)) 21 0 (upd ((xsA h 20 0 (upd (h.2.2.2.1 20 0) (h.1 4 4 0).toNatClampNeg a)).2.2.2.1 21 0) (h.1 4 4 0).toNatClampNeg b)) 4 4 0 (h.1 4 4 0 + 1)) else none) else none) = _
    rw [hc, if_neg (nI_pos (by omega)), if_neg (show ¬ (10 : Int32) ≤ nI c from nI_ge (b := 10) c10 (by decide)), if_pos x10, if_pos x10, cc, rdA_n (by decide), nI_1]
    rfl
  show (f_Scene_keepNote 0 a b h).bind (fun h10 => some (h10.1 4 4 0, h10)) = _
  rw [ek]
  show some ((ntC h c a b).1 4 4 0, ntC h c a b) = _
  unfold ntC
  rw [rdI_s]
theorem m_note {h : xH} {c : Nat} {a b : Int32} (hc : mS h 100 = nI c) (c10 : c < 10) : f_M_note_b47 a b h = some (nI (c + 1), xsA h 56 0 (ntV (mS h) c a b)) := by
  have e80 : (80 : Int32) + 2 * nI c = nI (80 + 2 * c) := by
    rw [show (2 : Int32) * nI c = nI (2 * c) from pk_mul 2 c]
    exact nI_add 80 (2 * c)
  have x1 : xib (nI (80 + 2 * c)) 101 := xibN (by omega) (by decide)
  have x2 : xib (nI (80 + 2 * c + 1)) 101 := xibN (by omega) (by decide)
  show (if mS h 100 = 10 then some (-2, h) else if xib (80 + 2 * mS h 100) 101 then (if xib (80 + 2 * mS h 100 + 1) 101 then some (mS (xsA (xsA (xsA h 56 0 (upd (mS h) ((80 : Int32) + 2 * mS h 100).toNatClampNeg a)) 56 0 (upd (mS (xsA h 56 0 (upd (mS h) ((80 : Int32) + 2 * mS h 100).toNatClampNeg a))) ((80 : Int32) + 2 * mS h 100 + 1).toNatClampNeg b)) 56 0 (upd (mS (xsA (xsA h 56 0 (upd (mS h) ((80 : Int32) + 2 * mS h 100).toNatClampNeg a)) 56 0 (upd (mS (xsA h 56 0 (upd (mS h) ((80 : Int32) + 2 * mS h 100).toNatClampNeg a))) ((80 : Int32) + 2 * mS h 100 + 1).toNatClampNeg b))) 100 (mS (xsA (xsA h 56 0 (upd (mS h) ((80 : Int32) + 2 * mS h 100).toNatClampNeg a)) 56 0 (upd (mS (xsA h 56 0 (upd (mS h) ((80 : Int32) + 2 * mS h 100).toNatClampNeg a))) ((80 : Int32) + 2 * mS h 100 + 1).toNatClampNeg b)) 100 + 1))) 100, xsA (xsA (xsA h 56 0 (upd (mS h) ((80 : Int32) + 2 * mS h 100).toNatClampNeg a)) 56 0 (upd (mS (xsA h 56 0 (upd (mS h) ((80 : Int32) + 2 * mS h 100).toNatClampNeg a))) ((80 : Int32) + 2 * mS h 100 + 1).toNatClampNeg b)) 56 0 (upd (mS (xsA (xsA h 56 0 (upd (mS h) ((80 : Int32) + 2 * mS h 100).toNatClampNeg a)) 56 0 (upd (mS (xsA h 56 0 (upd (mS h) ((80 : Int32) + 2 * mS h 100).toNatClampNeg a))) ((80 : Int32) + 2 * mS h 100 + 1).toNatClampNeg b))) 100 (mS (xsA (xsA h 56 0 (upd (mS h) ((80 : Int32) + 2 * mS h 100).toNatClampNeg a)) 56 0 (upd (mS (xsA h 56 0 (upd (mS h) ((80 : Int32) + 2 * mS h 100).toNatClampNeg a))) ((80 : Int32) + 2 * mS h 100 + 1).toNatClampNeg b)) 100 + 1))) else none) else none) = _
  have mm : ∀ (g : xH) (f : Nat → Int32), mS (xsA g 56 0 f) = f := fun g f => rdA_s
  rw [if_neg (show ¬ mS h 100 = 10 by rw [hc]; exact fun z => absurd ((nI_eq (b := 10) (by omega) (by decide)).mp z) (by omega)), hc, e80, nI_1, if_pos x1, if_pos x2, nI_clamp (by omega), nI_clamp (by omega), xsA_2, xsA_2]
  have mm2 : ∀ (g : xH) (f : Nat → Int32) (t : Nat), (xsA g 56 0 f).2.2.2.1 56 0 t = f t := fun g f t => congrFun rdA_s t
  simp only [mm, mm2]
  rw [pk_us, pk_un (by omega), pk_un (by omega), hc, nI_1]
  unfold ntV
  rw [show 80 + 2 * c + 1 = 81 + 2 * c by omega]
variable {Q : xH → Nat → Prop}
/-- note -/
theorem p_note (hQ : qOk Q) : lI_note (jII Q) := by
  rintro a b h ⟨R, hR, r1, r2, hj, hq⟩
  have keep : jII Q h := ⟨R, hR, r1, r2, hj, hq⟩
  obtain ⟨ht, hf, him, n, m, c, hsc, hpa⟩ := id hj
  obtain ⟨hv, hto, hst, hnc, hnk⟩ := id hsc
  obtain ⟨v0, -, -, -, v3, n8, -, -, -, -, -, -, v100, c10, vn⟩ := id hv
  have hn : mN h n := ⟨v3, n8⟩
  have h44 : h.1 4 4 0 = nI c := hnc.trans v100
  have h80 : h.1 8 0 0 = mS h 0 := hto.1
  have h83 : h.1 8 3 0 = nI n := hto.2.2.2.1.trans v3
  have cl : f_B_note a b h = (if a = -1 then some (0, xsI h 4 4 0 0) else if h.1 8 0 0 = 0 then some (-2, h) else if a < 0 then some (-2, h) else if (61 : Int32) ≤ a then some (-2, h) else if h.1 4 4 0 < 10 then (if b = -1 then f_B_note_b75 a b h else (f_Told_hasSorrow 0 b h).bind (fun r11 => if r11 = 0 then some (-2, h) else f_B_note_b75 a b h)) else some (-2, h)) := rfl
  have rf : ∀ h1 : xH, f_M_note a b h1 = (if a = -1 then some (0, xsA h1 56 0 (upd (mS h1) 100 0)) else if mS h1 0 = 1 then (if a < 0 ∨ 60 < a then some (-2, h1) else if b = -1 then f_M_note_b47 a b h1 else (f_M_isSorrow b h1).bind (fun r17 => if r17 = 0 then some (-2, h1) else f_M_note_b47 a b h1)) else some (-2, h1)) := by
    intro h1
    show (if a = -1 then some (0, xsA h1 56 0 (upd (mS h1) 100 0)) else (if mS h1 0 = 1 then some (1 : Int32) else some 0).bind (fun r3 => if r3 = 0 then some (-2, h1) else (f_M_in a.toInt64 0 60 h1).bind (fun r6 => if r6 = 0 then some (-2, h1) else if b = -1 then f_M_note_b47 a b h1 else (f_M_isSorrow b h1).bind (fun r17 => if r17 = 0 then some (-2, h1) else f_M_note_b47 a b h1)))) = _
    by_cases q : a = -1
    · rw [if_pos q, if_pos q]
    rw [if_neg q, if_neg q]
    by_cases p0 : mS h1 0 = 1
    · rw [if_pos p0, if_pos p0]
      show (f_M_in a.toInt64 0 60 h1).bind _ = _
      rw [m_in a 0 60 (by decide) (by decide)]
      by_cases p1 : a < 0 ∨ 60 < a
      · rw [if_pos p1, if_pos p1]; rfl
      · rw [if_neg p1, if_neg p1]; rfl
    · rw [if_neg p0, if_neg p0]; rfl
  by_cases am : a = -1
  · have em : mS (xsA (xsI h 4 4 0 0) 56 0 (upd (mS h) 100 0)) = upd (mS h) 100 0 := rdA_s
    have hF : ntF h (xsA (xsI h 4 4 0 0) 56 0 (upd (mS h) 100 0)) := ⟨fun c k i hn => rdI_3 hn, fun f i hn => rdA_n (by omega), fun t ht => by rw [em, pk_un (by omega)]⟩
    refine ⟨0, xsI h 4 4 0 0, xsA (xsI h 4 4 0 0) 56 0 (upd (mS h) 100 0), by rw [cl, if_pos am], by rw [rf, if_pos am]; rfl, note_jII hQ hR r1 r2 hq hF (note_jI (c' := 0) ht hf him hsc hpa hF ?_ ?_ (by omega) (fun _ => rfl) (fun j hj => absurd hj (by omega)))⟩
    · show (xsI h 4 4 0 0).1 4 4 0 = _
      rw [rdI_s, nI_0]
    · rw [em, pk_us, nI_0]
  rcases v0 with v0 | v0
  · exact ⟨-2, h, h, by rw [cl, if_neg am, h80, if_pos v0], by rw [rf, if_neg am, if_neg (by rw [v0]; decide)], keep⟩
  have ne : ¬ h.1 8 0 0 = 0 := by rw [h80, v0]; decide
  by_cases a0 : a < 0
  · exact ⟨-2, h, h, by rw [cl, if_neg am, if_neg ne, if_pos a0], by rw [rf, if_neg am, if_pos v0, if_pos (Or.inl a0)], keep⟩
  by_cases a61 : (61 : Int32) ≤ a
  · exact ⟨-2, h, h, by rw [cl, if_neg am, if_neg ne, if_neg a0, if_pos a61], by rw [rf, if_neg am, if_pos v0, if_pos (Or.inr (Int32.lt_of_lt_of_le (by decide) a61))], keep⟩
  obtain ⟨y, hy, ea⟩ : ∃ y, y ≤ 60 ∧ a = nI y := by
    rcases pk_ix a (n := 61) (by decide) with q | q | ⟨y, hy, e⟩
    · exact absurd q a0
    · exact absurd q a61
    · exact ⟨y, by omega, e⟩
  have n60 : ¬ (a < 0 ∨ 60 < a) := fun z => z.elim a0 (fun q => by
    rw [ea] at q
    exact nI_nlt (a := 60) (b := y) hy (by decide) q)
  have fall : (b = -1 ∨ ∃ l, l < n ∧ b = nI l) ∨ (¬ b = -1 ∧ (b < 0 ∨ nI n ≤ b)) := by
    by_cases bm : b = -1
    · exact Or.inl (Or.inl bm)
    · rcases pk_ix b (n := n) (by omega) with q | q | ⟨l, hl, e⟩
      · exact Or.inr ⟨bm, Or.inl q⟩
      · exact Or.inr ⟨bm, Or.inr q⟩
      · exact Or.inl (Or.inr ⟨l, hl, e⟩)
  rcases fall with hb | ⟨bm, hb⟩
  · have cl2 : f_B_note a b h = (if nI c < 10 then f_B_note_b75 a b h else some (-2, h)) := by
      rw [cl, if_neg am, if_neg ne, if_neg a0, if_neg a61, h44]
      by_cases bm : b = -1
      · rw [if_pos bm]
      · rw [if_neg bm]
        rcases hb with hb | ⟨l, hl, rfl⟩
        · exact absurd hb bm
        · rw [c_hasSorrow_in h83 n8 hl]
          rfl
    have rf2 : ∀ h1 : xH, mS h1 0 = 1 → mN h1 n → f_M_note a b h1 = f_M_note_b47 a b h1 := by
      intro h1 z0 hn1
      rw [rf, if_neg am, if_pos z0, if_neg n60]
      by_cases bm : b = -1
      · rw [if_pos bm]
      · rw [if_neg bm]
        rcases hb with hb | ⟨l, hl, rfl⟩
        · exact absurd hb bm
        · rw [m_isSorrow_in hn1 hl]
          rfl
    by_cases cc : c < 10
    · have eS : mS (ntC h c a b) = mS h := by
        funext t
        show (xsA (xsA h 20 0 _) 21 0 _).2.2.2.1 56 0 t = _
        rw [rdA_n (by decide), rdA_n (by decide)]
      have em : mS (xsA (ntC h c a b) 56 0 (ntV (mS h) c a b)) = ntV (mS h) c a b := rdA_s
      have e20 : (xsA (ntC h c a b) 56 0 (ntV (mS h) c a b)).2.2.2.1 20 0 = upd (h.2.2.2.1 20 0) c a := by
        rw [rdA_n (by decide)]
        show (xsA (xsA h 20 0 _) 21 0 _).2.2.2.1 20 0 = _
        rw [rdA_n (by decide), rdA_s]
      have e21 : (xsA (ntC h c a b) 56 0 (ntV (mS h) c a b)).2.2.2.1 21 0 = upd (h.2.2.2.1 21 0) c b := by
        rw [rdA_n (by decide)]
        show (xsA (xsA h 20 0 _) 21 0 _).2.2.2.1 21 0 = _
        rw [rdA_s]
      have hF : ntF h (xsA (ntC h c a b) 56 0 (ntV (mS h) c a b)) := by
        refine ⟨fun c k i hn => rdI_3 hn, fun f i hn => ?_, fun t ht => ?_⟩
        · rw [rdA_n (by omega)]
          show (xsA (xsA h 20 0 _) 21 0 _).2.2.2.1 f i = _
          rw [rdA_n (by omega), rdA_n (by omega)]
        · rw [em]
          unfold ntV
          rw [pk_un (by omega), pk_un (by omega), pk_un (by omega)]
      refine ⟨nI (c + 1), ntC h c a b, xsA (ntC h c a b) 56 0 (ntV (mS h) c a b), ?_, ?_, note_jII hQ hR r1 r2 hq hF (note_jI (c' := c + 1) ht hf him hsc hpa hF ?_ ?_ (by omega) (fun z => absurd z (by rw [v0]; decide)) (fun j hj => ?_))⟩
      · rw [cl2, if_pos (show nI c < (10 : Int32) from (nI_lt cc (by decide) : nI c < nI 10)), c_note h44 cc]
      · rw [rf2 _ (by rw [eS]; exact v0) ⟨by rw [eS]; exact v3, n8⟩, m_note (by rw [eS]; exact v100) cc, eS]
      · show (ntC h c a b).1 4 4 0 = _
        exact rdI_s
      · rw [em]
        exact pk_us
      · rw [em, e20, e21]
        unfold ntV
        by_cases jc : j = c
        · subst jc
          rw [pk_us, pk_us, pk_un (by omega), pk_un (by omega), pk_us, pk_un (by omega), pk_us]
          exact ⟨⟨⟨y, hy, ea⟩, hb⟩, rfl, rfl⟩
        · have jl : j < c := by omega
          rw [pk_un jc, pk_un jc, pk_un (by omega), pk_un (by omega), pk_un (by omega), pk_un (by omega), pk_un (by omega), pk_un (by omega)]
          exact ⟨vn j jl, hnk j jl⟩
    · have c1 : c = 10 := by omega
      refine ⟨-2, h, h, by rw [cl2, if_neg (show ¬ nI c < (10 : Int32) by rw [c1]; decide)], ?_, keep⟩
      rw [rf2 h v0 hn]
      show (if mS h 100 = 10 then some (-2, h) else _) = _
      rw [if_pos (show mS h 100 = 10 by rw [v100, c1]; rfl)]
  · refine ⟨-2, h, h, ?_, ?_, keep⟩
    · rw [cl, if_neg am, if_neg ne, if_neg a0, if_neg a61, if_neg bm, c_hasSorrow_out h83 hb]
      show (if h.1 4 4 0 < 10 then some (-2, h) else some (-2, h)) = _
      split <;> rfl
    · rw [rf, if_neg am, if_pos v0, if_neg n60, if_neg bm, m_isSorrow_out hn hb]
      rfl
