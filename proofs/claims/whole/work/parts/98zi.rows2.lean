/-! PURE: rule: clauses by what they read -/
theorem mcP_c {A A' D D' : Nat → Int32} {r : Nat} : ∀ {cs : List Cl} {c p : Nat}, (∀ j, j < 400 * r + p + szc cs → A' j = A j) → (∀ j, j < 48 * r + 4 * (c + cs.length) → D' j = D j) → mcP A D r c p cs → mcP A' D' r c p cs
  | [], c, p, _, _, _ => trivial
  | (ls, none) :: rest, c, p, hA, hD, hm => by
    have hA : ∀ j, j < 400 * r + p + (ls.length + szc rest) → A' j = A j := hA
    have hD : ∀ j, j < 48 * r + 4 * (c + (rest.length + 1)) → D' j = D j := hD
    obtain ⟨a1, a2, a3, a4, a5, a6, a7⟩ := hm
    exact ⟨by rw [hD _ (by omega)]; exact a1, by rw [hD _ (by omega)]; exact a2, a3, tkA_c (fun j hj => hA j (by omega)) a4, a5, by rw [hD _ (by omega)]; exact a6, mcP_c (fun j hj => hA j (by omega)) (fun j hj => hD j (by omega)) a7⟩
  | (ls, some l) :: rest, c, p, hA, hD, hm => by
    have hA : ∀ j, j < 400 * r + p + (ls.length + l.length + szc rest) → A' j = A j := hA
    have hD : ∀ j, j < 48 * r + 4 * (c + (rest.length + 1)) → D' j = D j := hD
    obtain ⟨a1, a2, a3, a4, a5, a6, a7, a8, a9, b1, b2⟩ := hm
    exact ⟨by rw [hD _ (by omega)]; exact a1, by rw [hD _ (by omega)]; exact a2, a3, tkA_c (fun j hj => hA j (by omega)) a4, a5, by rw [hD _ (by omega)]; exact a6, by rw [hD _ (by omega)]; exact a7, a8, tkA_c (fun j hj => hA j (by omega)) a9, b1, mcP_c (fun j hj => hA j (by omega)) (fun j hj => hD j (by omega)) b2⟩
theorem ccP_c {A A' : Nat → Int32} : ∀ {cs : List Cl} {c p : Nat}, (∀ j, j < p + c + szc cs + cs.length → A' j = A j) → ccP A c p cs → ccP A' c p cs
  | [], c, p, _, _ => trivial
  | (ls, none) :: rest, c, p, hA, hm => by
    have hA : ∀ j, j < p + c + (ls.length + szc rest) + (rest.length + 1) → A' j = A j := hA
    obtain ⟨a1, a2, a3, a4⟩ := hm
    exact ⟨ckA_c (fun j hj => hA j (by omega)) a1, a2, by rw [hA _ (by omega)]; exact a3, ccP_c (fun j hj => hA j (by omega)) a4⟩
  | (ls, some l) :: rest, c, p, hA, hm => by
    have hA : ∀ j, j < p + c + (ls.length + l.length + szc rest) + (rest.length + 1) → A' j = A j := hA
    obtain ⟨a1, a2, a3, a4, a5, a6⟩ := hm
    exact ⟨ckA_c (fun j hj => hA j (by omega)) a1, a2, ckA_c (fun j hj => hA j (by omega)) a3, a4, by rw [hA _ (by omega)]; exact a5, ccP_c (fun j hj => hA j (by omega)) a6⟩
