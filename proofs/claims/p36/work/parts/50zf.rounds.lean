section
variable {KK : Nat → vOb} {x r b y u hz n n0 s0 : Nat} {Gs : Nat → Nat}
set_option maxRecDepth 20000 in
/-- THE ROUNDS -/
theorem rounds_L (hn : 1 ≤ n) : ∀ (i f p : Nat) (N : vMe) (E : Nat → Nat → Value) (clk : Nat), p + i = 26 → i < f → WW KK N x r b y u hz n clk E → clk + 64 * i < 2000 → N.2.1 + 145 * i ≤ n0 + 4000 → N.2.2.1 + 2706 * i ≤ s0 + 200000 →
    ∃ N2, tL_plays_L380 Gs n0 s0 x y b f (Int32.ofNat p) N = some (.inr (), N2) ∧ N2.2.1 ≤ n0 + 4000 ∧ N2.2.2.1 ≤ s0 + 200000 ∧ ∃ E2 clk2, WW KK N2 x r b y u hz n clk2 E2 := by
  intro i
  induction i with
  | zero =>
    intro f p N E clk hp hf w hc h1 h2
    obtain ⟨f, rfl⟩ : ∃ g, f = g + 1 := ⟨f - 1, by omega⟩
    exact ⟨N, by rw [tL_plays_L380, if_pos (show (26 : Int32) ≤ Int32.ofNat p from (n_le (a := 26) (by omega) (by omega)).mpr (by omega))], by omega, by omega, E, clk, w⟩
  | succ i ih =>
    intro f p N E clk hp hf w hc h1 h2
    obtain ⟨f, rfl⟩ : ∃ g, f = g + 1 := ⟨f - 1, by omega⟩
    obtain ⟨N1, E1, clk1, a1, a2, a3, a4, a5⟩ := changes_W (Gs := Gs) w (by omega) hn
    obtain ⟨N2, b1, b2, b3, b4⟩ := state_W a2
    obtain ⟨N3, c1, c2, c3⟩ := asks_W b2 hn
    obtain ⟨N4, d1, d2, d3⟩ := ih f (p + 1) N3 E1 clk1 (by omega) (by omega) c2 (by omega) (by rw [c3]; omega) (by rw [c3]; omega)
    have k1 : N.2.1 + 128 ≤ n0 + 4000 ∧ N.2.2.1 + 2600 ≤ s0 + 200000 := ⟨by omega, by omega⟩
    have k2 : N1.2.1 + 16 ≤ n0 + 4000 ∧ N1.2.2.1 + 100 ≤ s0 + 200000 := ⟨by omega, by omega⟩
    have k3 : N2.2.1 + 1 ≤ n0 + 4000 ∧ N2.2.2.1 + 6 ≤ s0 + 200000 := ⟨by omega, by omega⟩
    refine ⟨N4, ?_, d2, d3⟩
    rw [tL_plays_L380, if_neg (show ¬ (26 : Int32) ≤ Int32.ofNat p from fun g => by have := (n_le (a := 26) (by omega) (by omega)).mp g; omega), if_pos k1, a1, Option.bind_some, if_neg n10]
    dsimp only
    rw [if_pos k2, b1, Option.bind_some, if_neg n10]
    dsimp only
    rw [if_pos k3, c1, Option.bind_some, if_neg n10]
    dsimp only
    rw [n_succ]
    exact d1
end
