section
variable {M : vMe} {x r a d : Nat} {G F C : Nat → Nat → Value} {u hz n k : Nat}
theorem evs_th {c : Int32} {s : Nat} : evs (Fth F c) s = evs F s := by funext i w; exact Fth_S
theorem L_cnt (h : simP C F u hz n k) {s : Nat} (hs : s < n) : ∃ m, m ≤ 60 ∧ oS F s 3 = Int32.ofNat m := by
  obtain ⟨m, m1, m2⟩ := (h.2.2.2.2.2 s hs).2.2.2.2
  exact ⟨m, by have := h.1.2.1.2.2; omega, m2⟩
/-- a stamp that is out of range, or not -/
theorem c_checkStamp (h : simD M x r G F a d C u hz n k) {j : Nat} (hj : j < n) (st : Int32) : tX9_checkStamp x (a + (4 + 8 * j + 4)) st M = some (if st < oS F j 2 ∨ gt F 1 3 < st then .inr 0 else .inl (), M) := by
  have hP := D_p h
  have hj5 : j < 5 := by have := hP.1.2.2.1.2; omega
  have J : tX9_checkStamp_J19 M.2.1 M.2.2.1 M = some (.inr 0, M) := if_pos (ok2 M)
  rw [tX9_checkStamp, B_lI (D_b h) hj5, Option.bind_some, (hP.2.2.2.2.2 j hj).1.2.2.2.2.2.2.1]
  by_cases q : st < oS F j 2
  · rw [if_pos q, J, if_pos (.inl q)]
  · rw [if_neg q, A_no h, Option.bind_some, B_I0 (D_b h), Option.bind_some, hP.2.1.2.2.2.2.1]
    by_cases q2 : gt F 1 3 < st
    · rw [if_neg (Int32.not_le.mpr q2), J, if_pos (.inr q2)]
    · rw [if_pos (Int32.not_lt.mp q2), if_pos (ok1 M), if_neg (fun g => g.elim q q2)]
theorem c_bits_at (h : simD M x r G F a d C u hz n k) {j m : Nat} (hj : j < n) (hm : oS F j 3 = Int32.ofNat m) (hm60 : m ≤ 60) (st : Int32) : tX2_bitsAt (a + (4 + 8 * j + 4)) st M = some (cAt (evs F j) st m 0 (two (oS F j 5) (oS F j 4))) := by
  have hP := D_p h
  have := c_bitsAt (M := M) (st := st) (D_c h) (s := j) (by have := hP.1.2.2.1.2; omega) (simS_L (hP.2.2.2.2.2 j hj).1) hm hm60
  rw [(D_b h).eq] at this; exact this
/-- which cursors there are -/
theorem arg_u (hP : simP C F u hz n k) (s : Int32) : (∃ c, c < 6 ∧ oC F c 0 = 1 ∧ s = Int32.ofNat c) ∨ ((s < 0 ∨ ¬ s < Int32.ofNat 6) ∨ ∃ c, c < 6 ∧ s = Int32.ofNat c ∧ oC F c 0 = 0) := by
  rcases arg_c s (n := 6) (by omega) with ⟨c, hc, rfl⟩ | g
  · rcases hP.2.2.2.1 c hc with ⟨g, -⟩ | ⟨g, -⟩
    · exact .inr (.inr ⟨c, hc, rfl, g⟩)
    · exact .inl ⟨c, hc, g, rfl⟩
  · exact .inr (.inl g)
theorem arg_2 (s o : Int32) {n : Nat} (hn : n < 2147483648) : (∃ i j, i < n ∧ j < n ∧ s = Int32.ofNat i ∧ o = Int32.ofNat j) ∨ ((s < 0 ∨ ¬ s < Int32.ofNat n) ∨ ((∃ i, i < n ∧ s = Int32.ofNat i) ∧ (o < 0 ∨ ¬ o < Int32.ofNat n))) := by
  rcases arg_c s hn with ⟨i, hi, e⟩ | g
  · rcases arg_c o hn with ⟨j, hj, e2⟩ | g
    · exact .inl ⟨i, j, hi, hj, e, e2⟩
    · exact .inr (.inr ⟨⟨i, hi, e⟩, g⟩)
  · exact .inr (.inl g)
/-- both sets as bits -/
theorem c_bitsS (h : simD M x r G F a d C u hz n k) {j : Nat} (hj : j < n) : ∃ B m, tX7_bits (a + (4 + 8 * j)) M = some B ∧ (∀ y, y < 64 → (bt B y = true ↔ isM F j y)) ∧ pcI B = m ∧ oS F j 0 = Int32.ofNat m ∧ m ≤ 64 := by
  have hP := D_p h
  obtain ⟨sS, sO⟩ := hP.2.2.2.2.2 j hj
  obtain ⟨m, m1, m2⟩ := okS_m sO
  have hu := hP.1.1.2.2
  obtain ⟨B, b1, b2, b3⟩ := c_bits (M := M) (D_c h) (s := j) (by have := hP.1.2.2.1.2; omega) sO sS hu m2 (by omega)
  rw [(D_b h).eq] at b1
  exact ⟨B, m, b1, b2, b3, m2, by omega⟩
theorem n_un {a b c d : Nat} (h : d + c = a + b) : Int32.ofNat a + Int32.ofNat b - Int32.ofNat c = Int32.ofNat d := by
  rw [n_add, n_sub (by omega), show a + b - c = d by omega]
theorem n_z {a : Nat} (h : a < 2147483648) (g : ¬ a = 0) : ¬ Int32.ofNat a = 0 := fun e => g ((n_eq (b := 0) h (by omega)).mp e)
theorem n_z0 {a : Nat} (g : a = 0) : Int32.ofNat a = 0 := by rw [g]; rfl
end
