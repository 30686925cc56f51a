/-! PURE: rule: clauses one behind the other -/
def szc : List Cl → Nat
  | [] => 0
  | (ls, none) :: rest => ls.length + szc rest
  | (ls, some l) :: rest => ls.length + l.length + szc rest
/-- the reference's clauses so far -/
def mcP (A D : Nat → Int32) (r : Nat) : Nat → Nat → List Cl → Prop
  | _, _, [] => True
  | c, p, (ls, none) :: rest => D (48 * r + 4 * c) = nI p ∧ D (48 * r + 4 * c + 1) = nI (p + ls.length) ∧ p + ls.length ≤ 400 ∧ tkA A (400 * r + p) ls ∧ sumG ls ∧ D (48 * r + 4 * c + 2) = -1 ∧ mcP A D r (c + 1) (p + ls.length) rest
  | c, p, (ls, some l) :: rest => D (48 * r + 4 * c) = nI p ∧ D (48 * r + 4 * c + 1) = nI (p + ls.length) ∧ p + ls.length ≤ 400 ∧ tkA A (400 * r + p) ls ∧ sumG ls ∧ D (48 * r + 4 * c + 2) = nI (p + ls.length) ∧ D (48 * r + 4 * c + 3) = nI (p + ls.length + l.length) ∧ p + ls.length + l.length ≤ 400 ∧ tkA A (400 * r + (p + ls.length)) l ∧ tstG l ∧ mcP A D r (c + 1) (p + ls.length + l.length) rest
theorem mcR_P {h : xH} {r : Nat} : ∀ {cs : List Cl} {c p : Nat}, mcP (h.2.2.2.1 48 0) (h.2.2.2.1 50 0) r c p cs → h.2.2.2.1 51 0 r = nI (c + cs.length) → c + cs.length ≤ 12 → mcR h r c p cs
  | [], c, p, _, e, hl => ⟨e, hl⟩
  | (ls, none) :: rest, c, p, hm, e, hl => by
    have hl : c + (rest.length + 1) ≤ 12 := hl
    have e : h.2.2.2.1 51 0 r = nI (c + (rest.length + 1)) := e
    obtain ⟨a1, a2, a3, a4, a5, a6, a7⟩ := hm
    exact ⟨a1, a2, a3, a4, a5, a6, mcR_P a7 (by rw [e, show c + 1 + rest.length = c + (rest.length + 1) by omega]) (by omega)⟩
  | (ls, some l) :: rest, c, p, hm, e, hl => by
    have hl : c + (rest.length + 1) ≤ 12 := hl
    have e : h.2.2.2.1 51 0 r = nI (c + (rest.length + 1)) := e
    obtain ⟨a1, a2, a3, a4, a5, a6, a7, a8, a9, b1, b2⟩ := hm
    exact ⟨a1, a2, a3, a4, a5, a6, a7, a8, a9, b1, mcR_P b2 (by rw [e, show c + 1 + rest.length = c + (rest.length + 1) by omega]) (by omega)⟩
theorem mcP_a {A D : Nat → Int32} {r : Nat} {q : Cl} : ∀ {cs : List Cl} {c p : Nat}, mcP A D r c p cs → mcP A D r (c + cs.length) (p + szc cs) [q] → mcP A D r c p (cs ++ [q])
  | [], c, p, _, h => h
  | (ls, none) :: rest, c, p, hm, h => by
    obtain ⟨a1, a2, a3, a4, a5, a6, a7⟩ := hm
    refine ⟨a1, a2, a3, a4, a5, a6, mcP_a a7 ?_⟩
    rw [show c + 1 + rest.length = c + (rest.length + 1) by omega, show p + ls.length + szc rest = p + (ls.length + szc rest) by omega]
    exact h
  | (ls, some l) :: rest, c, p, hm, h => by
    obtain ⟨a1, a2, a3, a4, a5, a6, a7, a8, a9, b1, b2⟩ := hm
    refine ⟨a1, a2, a3, a4, a5, a6, a7, a8, a9, b1, mcP_a b2 ?_⟩
    rw [show c + 1 + rest.length = c + (rest.length + 1) by omega, show p + ls.length + l.length + szc rest = p + (ls.length + l.length + szc rest) by omega]
    exact h
/-- the class's clauses so far -/
def ccP (A : Nat → Int32) : Nat → Nat → List Cl → Prop
  | _, _, [] => True
  | c, p, (ls, none) :: rest => ckA A (p + c) ls ∧ sumG ls ∧ A (p + c + ls.length) = 26 ∧ ccP A (c + 1) (p + ls.length) rest
  | c, p, (ls, some l) :: rest => ckA A (p + c) ls ∧ sumG ls ∧ ckA A (p + c + ls.length) l ∧ tstG l ∧ A (p + c + ls.length + l.length) = 25 ∧ ccP A (c + 1) (p + ls.length + l.length) rest
theorem ccR_P {h : xH} {r : Nat} : ∀ {cs : List Cl} {c p : Nat}, ccP (h.2.2.2.1 18 r) c p cs → h.1 2 2 r = nI (p + szc cs + (c + cs.length)) → p + szc cs + (c + cs.length) ≤ 400 → ccR h r c p cs
  | [], c, p, _, e, hl => ⟨e, hl⟩
  | (ls, none) :: rest, c, p, hm, e, hl => by
    have hl : p + (ls.length + szc rest) + (c + (rest.length + 1)) ≤ 400 := hl
    have e : h.1 2 2 r = nI (p + (ls.length + szc rest) + (c + (rest.length + 1))) := e
    obtain ⟨a1, a2, a3, a4⟩ := hm
    exact ⟨a1, a2, a3, ccR_P a4 (by rw [e]; congr 1; omega) (by omega)⟩
  | (ls, some l) :: rest, c, p, hm, e, hl => by
    have hl : p + (ls.length + l.length + szc rest) + (c + (rest.length + 1)) ≤ 400 := hl
    have e : h.1 2 2 r = nI (p + (ls.length + l.length + szc rest) + (c + (rest.length + 1))) := e
    obtain ⟨a1, a2, a3, a4, a5, a6⟩ := hm
    exact ⟨a1, a2, a3, a4, a5, ccR_P a6 (by rw [e]; congr 1; omega) (by omega)⟩
theorem ccP_a {A : Nat → Int32} {q : Cl} : ∀ {cs : List Cl} {c p : Nat}, ccP A c p cs → ccP A (c + cs.length) (p + szc cs) [q] → ccP A c p (cs ++ [q])
  | [], c, p, _, h => h
  | (ls, none) :: rest, c, p, hm, h => by
    obtain ⟨a1, a2, a3, a4⟩ := hm
    refine ⟨a1, a2, a3, ccP_a a4 ?_⟩
    rw [show c + 1 + rest.length = c + (rest.length + 1) by omega, show p + ls.length + szc rest = p + (ls.length + szc rest) by omega]
    exact h
  | (ls, some l) :: rest, c, p, hm, h => by
    obtain ⟨a1, a2, a3, a4, a5, a6⟩ := hm
    refine ⟨a1, a2, a3, a4, a5, ccP_a a6 ?_⟩
    rw [show c + 1 + rest.length = c + (rest.length + 1) by omega, show p + ls.length + l.length + szc rest = p + (ls.length + l.length + szc rest) by omega]
    exact h
