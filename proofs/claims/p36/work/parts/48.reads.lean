section
variable {M : vMe} {x r a d : Nat} {G F C : Nat → Nat → Value} {u hz n k : Nat}
def mpA : Nat → Int32 := fun j => if j = 1 then 1 else if j = 0 then 2 else 0
def mpC : Nat → Int32 := fun j => if j = 1 then 1 else if j = 2 then 2 else 0
def mp0 : Nat → Int32 := fun j => if j = 0 then 1 else 0
def mp1 : Nat → Int32 := fun j => if j = 1 then 1 else 0
def mp2 : Nat → Int32 := fun j => if j = 2 then 1 else 0
theorem inv_ne {s : Int32} {m : Nat} (hm : m < 2147483648) (h : s < 0 ∨ ¬ s < Int32.ofNat m) {j : Nat} (hj : j < m) : s ≠ Int32.ofNat j := fun e => by
  subst e
  rcases h with g | g
  · exact n_neg (by omega) g
  · exact g ((n_lt (by omega) hm).mpr hj)
theorem inv_w {s : Int32} {m : Nat} (hm : m < 2147483648) (h1 : 1 ≤ m) (h : s < 0 ∨ ¬ s < Int32.ofNat m) : s < 0 ∨ Int32.ofNat (m - 1) < s := by
  by_cases h0 : s < 0
  · exact .inl h0
  · right
    have e := h.resolve_left h0
    rw [Int32.lt_iff_toInt_lt, n_toInt (by omega)] at e ⊢
    omega
theorem n10 : ¬ (1 : Int32) = 0 := by decide
theorem ok1 (M : vMe) : M.2.1 ≤ M.2.1 + 1 ∧ M.2.2.1 ≤ M.2.2.1 + 6 := ⟨Nat.le_add_right _ _, Nat.le_add_right _ _⟩
theorem ok2 (M : vMe) : M.2.1 + 1 ≤ M.2.1 + 1 ∧ M.2.2.1 + 6 ≤ M.2.2.1 + 6 := ⟨Nat.le_refl _, Nat.le_refl _⟩
theorem ok0 (M : vMe) : M.2.1 + 0 ≤ M.2.1 + 1 ∧ M.2.2.1 + 0 ≤ M.2.2.1 + 6 := ⟨Nat.le_add_right _ _, Nat.le_add_right _ _⟩
theorem H_cnt (h : simD M x r G F a d C u hz n k) : gI M (x + 3) 10 2 = some (gt F 0 18) := by
  obtain ⟨a1, -, -, -, -, -, -, -, ⟨nx, cnt, j1, j2, j3, j4, j5, j6⟩, -⟩ := h
  rw [← a1.1.eq, g_h, j4, j5]
theorem c_pl (h : simD M x r G F a d C u hz n k) {s : Nat} (hs : s < n) (w : Int32) : ∃ v, tX7_placeOf (a + (4 + 8 * s)) w M = some v ∧ ((v = -1 ∧ ∀ y, y < 64 → w = Int32.ofNat y → ¬ isM F s y) ∨ (∃ y, y < 64 ∧ w = Int32.ofNat y ∧ isM F s y ∧ v = oS F s (70 + y))) := by
  have hP := D_p h
  have := c_placeOf (M := M) (x := w) (D_c h) (s := s) (by have := hP.1.2.2.1.2; omega) (hP.2.2.2.2.2 s hs).2 (hP.2.2.2.2.2 s hs).1 hP.1.1.2.2
  rw [(D_b h).eq] at this; exact this
theorem isM_pl {u hz s y : Nat} (hO : okS F u hz s) (h : isM F s y) : ∃ p, p < 64 ∧ oS F s (70 + y) = Int32.ofNat p := by
  obtain ⟨p, m, e1, e2, e3, e4, e5⟩ := h
  exact ⟨p, by omega, e1⟩
theorem c_hasW (h : simD M x r G F a d C u hz n k) {s : Nat} (hs : s < n) (w : Int32) : (tX7_has (a + (4 + 8 * s)) w M = some 0 ∧ ∀ y, y < 64 → w = Int32.ofNat y → ¬ isM F s y) ∨ (∃ y, y < 64 ∧ w = Int32.ofNat y ∧ isM F s y ∧ tX7_has (a + (4 + 8 * s)) w M = some 1) := by
  have hP := D_p h
  have hs5 : s < 5 := by have := hP.1.2.2.1.2; omega
  obtain ⟨v, v1, v2⟩ := c_pl h hs w
  have st : tX7_has (a + (4 + 8 * s)) w M = if v = -1 then some 0 else some 1 := by
    simp only [tX7_has]
    rw [if_pos (B_tR (D_b h) hs5), v1, Option.bind_some]
  rcases v2 with ⟨e, g⟩ | ⟨y, y1, y2, y3, y4⟩
  · exact .inl ⟨by rw [st, if_pos e], g⟩
  · refine .inr ⟨y, y1, y2, y3, ?_⟩
    obtain ⟨p, p1, p2⟩ := isM_pl (hP.2.2.2.2.2 s hs).2 y3
    rw [st, if_neg]
    rw [y4, p2]
    intro e
    have := n_neg (a := p) (by omega)
    rw [e] at this
    exact this (by decide)
end
