section
variable {KK : Nat → vOb} {M : vMe} {x r b y u hz n clk : Nat} {E : Nat → Nat → Value} {Gs : Nat → Nat}
theorem WW_h (w : WW KK M x r b y u hz n clk E) : hE M b E ∧ eOk M b E ∧ gt E 0 0 = Int32.ofNat n ∧ gt E 0 1 = Int32.ofNat u ∧ 1 ≤ u ∧ u ≤ 64 ∧ n ≤ 5 := by
  obtain ⟨G, F, a, d, C, k, w1, w2, w3, w4, w5, w6, w7, w8⟩ := w
  have hP := D_p w1
  obtain ⟨R0, R1, R2, R3, R4, R5⟩ := R_h w2
  exact ⟨w4, w5, R0.symm.trans hP.1.2.2.1.1, R1.symm.trans hP.1.1.1, hP.1.1.2.1, hP.1.1.2.2, hP.1.2.2.1.2⟩
/-- ONE CHANGE -/
theorem changes_W (w : WW KK M x r b y u hz n clk E) (hclk : clk + 64 < 2000) (hn : 1 ≤ n) : goodC KK M.2.1 M.2.2.1 x r b y u hz n clk (tL_changes Gs x b y M) := by
  obtain ⟨e0, o0, g0, -, -, -, hn5⟩ := WW_h w
  obtain ⟨j, M2, hj, d2, b2, w2⟩ := draw_W w hn (by omega)
  obtain ⟨e2, o2, -, g1, hu1, hu, -⟩ := WW_h w2
  obtain ⟨l, M6, hl, d6, b6, w6⟩ := draw_W w2 hu1 (by omega)
  obtain ⟨c, M7, hc, d7, b7, w7⟩ := draw_W w6 (show 1 ≤ 6 by omega) (by omega)
  obtain ⟨op, M8, hop, d8, b8, w8⟩ := draw_W w7 (show 1 ≤ 14 by omega) (by omega)
  have e8 : M8.2 = M.2 := by rw [b8, b7, b6, b2]
  obtain ⟨h8, o8, g08, -, -, -, -⟩ := WW_h w8
  have i0 : ∀ {N : vMe}, N.2 = M.2 → N.2.1 + 0 ≤ M.2.1 + 128 ∧ N.2.2.1 + 0 ≤ M.2.2.1 + 2600 := fun e => by rw [e]; exact ⟨by omega, by omega⟩
  have i1 : ∀ {N : vMe}, N.2 = M.2 → N.2.1 ≤ M.2.1 ∧ N.2.2.1 ≤ M.2.2.1 := fun e => by rw [e]; exact ⟨Nat.le_refl _, Nat.le_refl _⟩
  rw [tL_changes, e0.I0 o0, Option.bind_some, if_pos (i0 rfl), g0, d2, Option.bind_some, e2.A6 o2, Option.bind_some, e2.box o2 (by omega), Option.bind_some, e2.I0 o2, Option.bind_some, if_pos (i0 b2), g1, d6, Option.bind_some, if_pos (i0 (b6.trans b2)), show tL_draw y 6 M6 = tL_draw y (Int32.ofNat 6) M6 from rfl, d7, Option.bind_some, if_pos (i0 (b7.trans (b6.trans b2))), show tL_draw y 14 M7 = tL_draw y (Int32.ofNat 14) M7 from rfl, d8, Option.bind_some]
  obtain ⟨j2, M9, hj2, d9, b9, w9⟩ := draw_W w8 (show 1 ≤ 2 by omega) (by omega)
  obtain ⟨o', M10, ho', d10, b10, w10⟩ := draw_W w8 hn (by omega)
  have e9 : M9.2 = M.2 := b9.trans e8
  have e10 : M10.2 = M.2 := b10.trans e8
  rcases (show op = 0 ∨ op = 1 ∨ op = 2 ∨ op = 3 ∨ op = 4 ∨ op = 5 ∨ op = 6 ∨ op = 7 ∨ op = 8 ∨ op = 9 ∨ op = 10 ∨ op = 11 ∨ op = 12 ∨ op = 13 by omega) with rfl | rfl | rfl | rfl | rfl | rfl | rfl | rfl | rfl | rfl | rfl | rfl | rfl | rfl
  · rw [if_pos (show Int32.ofNat 0 = 0 by decide), if_pos (i0 e8), show tL_draw y 2 M8 = tL_draw y (Int32.ofNat 2) M8 from rfl, d9, Option.bind_some]
    by_cases q : Int32.ofNat j2 ≤ 0
    · rw [if_pos q]
      exact ch_clear w9 hclk hj (i1 e9).1 (i1 e9).2
    · rw [if_neg q]
      exact good_no w9 (i1 e9).1 (i1 e9).2
  · rw [if_neg (show ¬ Int32.ofNat 1 = 0 by decide), if_pos (show Int32.ofNat 1 = 1 by decide)]
    exact ch_mark w8 hclk (i1 e8).1 (i1 e8).2
  · rw [if_neg (show ¬ Int32.ofNat 2 = 0 by decide), if_neg (show ¬ Int32.ofNat 2 = 1 by decide), if_pos (show Int32.ofNat 2 = 2 by decide)]
    exact ch_open w8 hclk hj (i1 e8).1 (i1 e8).2
  · rw [if_neg (show ¬ Int32.ofNat 3 = 0 by decide), if_neg (show ¬ Int32.ofNat 3 = 1 by decide), if_neg (show ¬ Int32.ofNat 3 = 2 by decide), if_pos (show Int32.ofNat 3 = 3 by decide)]
    exact ch_open w8 hclk hj (i1 e8).1 (i1 e8).2
  · rw [if_neg (show ¬ Int32.ofNat 4 = 0 by decide), if_neg (show ¬ Int32.ofNat 4 = 1 by decide), if_neg (show ¬ Int32.ofNat 4 = 2 by decide), if_neg (show ¬ Int32.ofNat 4 = 3 by decide), if_pos (show Int32.ofNat 4 = 4 by decide), h8.A7 o8, Option.bind_some, h8.cR o8 hc, Option.bind_some]
    rcases o8.2.2.2.2.1 c hc with g | ⟨q, g, -⟩
    · rw [g, if_pos (show vR Value.null = none from rfl)]
      exact good_no w8 (i1 e8).1 (i1 e8).2
    · rw [g, if_neg (show ¬ vR (Value.ref q) = none from fun g => by cases g), if_pos (i0 e8), show tL_draw y 2 M8 = tL_draw y (Int32.ofNat 2) M8 from rfl, d9, Option.bind_some]
      by_cases q2 : Int32.ofNat j2 ≤ 0
      · rw [if_pos q2]
        exact ch_close w9 hclk hc g (i1 e9).1 (i1 e9).2
      · rw [if_neg q2]
        exact good_no w9 (i1 e9).1 (i1 e9).2
  · rw [if_neg (show ¬ Int32.ofNat 5 = 0 by decide), if_neg (show ¬ Int32.ofNat 5 = 1 by decide), if_neg (show ¬ Int32.ofNat 5 = 2 by decide), if_neg (show ¬ Int32.ofNat 5 = 3 by decide), if_neg (show ¬ Int32.ofNat 5 = 4 by decide), if_pos (show Int32.ofNat 5 = 5 by decide)]
    exact ch_step w8 hclk hc (i1 e8).1 (i1 e8).2
  · rw [if_neg (show ¬ Int32.ofNat 6 = 0 by decide), if_neg (show ¬ Int32.ofNat 6 = 1 by decide), if_neg (show ¬ Int32.ofNat 6 = 2 by decide), if_neg (show ¬ Int32.ofNat 6 = 3 by decide), if_neg (show ¬ Int32.ofNat 6 = 4 by decide), if_neg (show ¬ Int32.ofNat 6 = 5 by decide), if_pos (show Int32.ofNat 6 = 6 by decide)]
    exact ch_step w8 hclk hc (i1 e8).1 (i1 e8).2
  · rw [if_neg (show ¬ Int32.ofNat 7 = 0 by decide), if_neg (show ¬ Int32.ofNat 7 = 1 by decide), if_neg (show ¬ Int32.ofNat 7 = 2 by decide), if_neg (show ¬ Int32.ofNat 7 = 3 by decide), if_neg (show ¬ Int32.ofNat 7 = 4 by decide), if_neg (show ¬ Int32.ofNat 7 = 5 by decide), if_neg (show ¬ Int32.ofNat 7 = 6 by decide), if_pos (show Int32.ofNat 7 = 7 by decide)]
    exact ch_step w8 hclk hc (i1 e8).1 (i1 e8).2
  · rw [if_neg (show ¬ Int32.ofNat 8 = 0 by decide), if_neg (show ¬ Int32.ofNat 8 = 1 by decide), if_neg (show ¬ Int32.ofNat 8 = 2 by decide), if_neg (show ¬ Int32.ofNat 8 = 3 by decide), if_neg (show ¬ Int32.ofNat 8 = 4 by decide), if_neg (show ¬ Int32.ofNat 8 = 5 by decide), if_neg (show ¬ Int32.ofNat 8 = 6 by decide), if_neg (show ¬ Int32.ofNat 8 = 7 by decide), if_pos (show Int32.ofNat 8 = 8 by decide)]
    exact ch_removeMet w8 hclk hc (i1 e8).1 (i1 e8).2
  · rw [if_neg (show ¬ Int32.ofNat 9 = 0 by decide), if_neg (show ¬ Int32.ofNat 9 = 1 by decide), if_neg (show ¬ Int32.ofNat 9 = 2 by decide), if_neg (show ¬ Int32.ofNat 9 = 3 by decide), if_neg (show ¬ Int32.ofNat 9 = 4 by decide), if_neg (show ¬ Int32.ofNat 9 = 5 by decide), if_neg (show ¬ Int32.ofNat 9 = 6 by decide), if_neg (show ¬ Int32.ofNat 9 = 7 by decide), if_neg (show ¬ Int32.ofNat 9 = 8 by decide), if_pos (show Int32.ofNat 9 = 9 by decide)]
    exact ch_remove w8 hclk hj hl (i1 e8).1 (i1 e8).2
  · rw [if_neg (show ¬ Int32.ofNat 10 = 0 by decide), if_neg (show ¬ Int32.ofNat 10 = 1 by decide), if_neg (show ¬ Int32.ofNat 10 = 2 by decide), if_neg (show ¬ Int32.ofNat 10 = 3 by decide), if_neg (show ¬ Int32.ofNat 10 = 4 by decide), if_neg (show ¬ Int32.ofNat 10 = 5 by decide), if_neg (show ¬ Int32.ofNat 10 = 6 by decide), if_neg (show ¬ Int32.ofNat 10 = 7 by decide), if_neg (show ¬ Int32.ofNat 10 = 8 by decide), if_neg (show ¬ Int32.ofNat 10 = 9 by decide), if_pos (show Int32.ofNat 10 = 10 by decide)]
    exact ch_remove w8 hclk hj hl (i1 e8).1 (i1 e8).2
  · rw [if_neg (show ¬ Int32.ofNat 11 = 0 by decide), if_neg (show ¬ Int32.ofNat 11 = 1 by decide), if_neg (show ¬ Int32.ofNat 11 = 2 by decide), if_neg (show ¬ Int32.ofNat 11 = 3 by decide), if_neg (show ¬ Int32.ofNat 11 = 4 by decide), if_neg (show ¬ Int32.ofNat 11 = 5 by decide), if_neg (show ¬ Int32.ofNat 11 = 6 by decide), if_neg (show ¬ Int32.ofNat 11 = 7 by decide), if_neg (show ¬ Int32.ofNat 11 = 8 by decide), if_neg (show ¬ Int32.ofNat 11 = 9 by decide), if_neg (show ¬ Int32.ofNat 11 = 10 by decide), if_pos (show Int32.ofNat 11 = 11 by decide), h8.I0 o8, Option.bind_some, if_pos (i0 e8), g08, d10, Option.bind_some]
    exact ch_keep w10 hclk hj ho' (i1 e10).1 (i1 e10).2
  · rw [if_neg (show ¬ Int32.ofNat 12 = 0 by decide), if_neg (show ¬ Int32.ofNat 12 = 1 by decide), if_neg (show ¬ Int32.ofNat 12 = 2 by decide), if_neg (show ¬ Int32.ofNat 12 = 3 by decide), if_neg (show ¬ Int32.ofNat 12 = 4 by decide), if_neg (show ¬ Int32.ofNat 12 = 5 by decide), if_neg (show ¬ Int32.ofNat 12 = 6 by decide), if_neg (show ¬ Int32.ofNat 12 = 7 by decide), if_neg (show ¬ Int32.ofNat 12 = 8 by decide), if_neg (show ¬ Int32.ofNat 12 = 9 by decide), if_neg (show ¬ Int32.ofNat 12 = 10 by decide), if_neg (show ¬ Int32.ofNat 12 = 11 by decide), if_pos (show Int32.ofNat 12 = 12 by decide), h8.I0 o8, Option.bind_some, if_pos (i0 e8), g08, d10, Option.bind_some]
    exact ch_unite w10 hclk hj ho' (i1 e10).1 (i1 e10).2
  · rw [if_neg (show ¬ Int32.ofNat 13 = 0 by decide), if_neg (show ¬ Int32.ofNat 13 = 1 by decide), if_neg (show ¬ Int32.ofNat 13 = 2 by decide), if_neg (show ¬ Int32.ofNat 13 = 3 by decide), if_neg (show ¬ Int32.ofNat 13 = 4 by decide), if_neg (show ¬ Int32.ofNat 13 = 5 by decide), if_neg (show ¬ Int32.ofNat 13 = 6 by decide), if_neg (show ¬ Int32.ofNat 13 = 7 by decide), if_neg (show ¬ Int32.ofNat 13 = 8 by decide), if_neg (show ¬ Int32.ofNat 13 = 9 by decide), if_neg (show ¬ Int32.ofNat 13 = 10 by decide), if_neg (show ¬ Int32.ofNat 13 = 11 by decide), if_neg (show ¬ Int32.ofNat 13 = 12 by decide)]
    exact ch_add w8 hclk hj hl (i1 e8).1 (i1 e8).2
end
