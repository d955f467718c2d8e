section
variable {KK : Nat → vOb} {M N : vMe} {x r a d b y u hz n k clk n0 s0 j NE : Nat} {G F C E : Nat → Nat → Value}
theorem hE.tJ (h : hE N b E) (o : eOk N b E) (hj : j < 5) {i : Nat} (hi : i < 2001) : aJ N (b + (2 + 8 * j + (6 + 1))) 104 (Int32.ofNat i) = some (tT E j i) := by rw [← h.eq o]; exact e_tJ hj hi
theorem a_full_L {x0 x2 : Nat} {x3 x4 : Int32} (he : hE N b E) (ho : eOk N b E) (hF : F 1 = eR E) (hj : j < 5) (hL : okL E F j NE clk) (hc : clk < 2000) (hNE : NE < 2000) (hK : eK E j ≤ 60) (h1 : N.2.1 + 0 ≤ n0 + 1) (h2 : N.2.2.1 + 0 ≤ s0 + 6) : ∀ (m f i : Nat) (best : Int32) (cb : Int64), i + m = eK E j → m < f → tX10_at (b + (2 + 8 * j)) best N = some cb →
    tL_asks_L185 n0 s0 x0 b x2 x3 x4 (b + (2 + 8 * j)) f best (Int32.ofNat (NE - eK E j + i)) N = some (ful (evs F j) m i best (tT E j (NE - eK E j + i)) (pcI cb), N) := by
  have eN1 : eN E j = NE := eN_of hL.1 (by omega)
  have hle : eK E j ≤ NE := by unfold eK; rw [eN1]; split <;> omega
  intro m
  induction m with
  | zero =>
    intro f i best cb hi hf hcb
    obtain ⟨f, rfl⟩ : ∃ g, f = g + 1 := ⟨f - 1, by omega⟩
    rw [tL_asks_L185, he.bI ho hj, Option.bind_some, hL.1, if_pos ((n_le (by omega) (by omega)).mpr (by omega))]; rfl
  | succ m ih =>
    intro f i best cb hi hf hcb
    obtain ⟨f, rfl⟩ : ∃ g, f = g + 1 := ⟨f - 1, by omega⟩
    obtain ⟨e0, e1, e2, -⟩ := ev_T hF hj hL hNE (show i < eK E j by omega) hK
    have e3 : aI N (b + (2 + 8 * j + (3 + 1))) 101 (Int32.ofNat (NE - eK E j + i)) = some (tS E j (NE - eK E j + i)) := he.eI ho hj (by omega) (by omega) (by omega)
    have e4 := at_s he ho hj hL hc hNE (i := NE - eK E j + i) e2
    have hp1 := pcI_le (tT E j (NE - eK E j + i + 1))
    have hp2 := pcI_le cb
    have gA6 : gA N (b + (2 + 8 * j)) 12 6 = some (b + (2 + 8 * j + (3 + 1))) := he.bA (j := 3) ho hj (by omega)
    rw [tL_asks_L185, he.bI ho hj, Option.bind_some, hL.1, if_neg (fun g => by have := (n_le (by omega) (by omega)).mp g; omega), gA6, Option.bind_some, e3, Option.bind_some, if_pos ⟨h1, h2⟩, if_pos (he.tB ho hj), e4, Option.bind_some, if_pos ⟨h1, h2⟩, bitCount_eq, Option.bind_some, if_pos ⟨h1, h2⟩, if_pos (he.tB ho hj), hcb, Option.bind_some, if_pos ⟨h1, h2⟩, bitCount_eq, Option.bind_some, ful, ← e1, e0]
    by_cases q : pcI (tT E j (NE - eK E j + i + 1)) ≤ pcI cb
    · rw [if_pos q, if_pos ((n_le (by omega) (by omega)).mpr q), tL_asks_J234_185, n_succ, show NE - eK E j + i + 1 = NE - eK E j + (i + 1) by omega]
      exact ih f (i + 1) best cb (by omega) (by omega) hcb
    · rw [if_neg q, if_neg (fun g => q ((n_le (by omega) (by omega)).mp g)), Option.bind_some, e3, Option.bind_some, tL_asks_J234_185, n_succ, show NE - eK E j + i + 1 = NE - eK E j + (i + 1) by omega]
      exact ih f (i + 1) _ _ (by omega) (by omega) (by rw [e4, show NE - eK E j + i + 1 = NE - eK E j + (i + 1) by omega])
theorem a_since_L {x0 x2 l : Nat} {x3 x4 x10 : Int32} (he : hE N b E) (ho : eOk N b E) (hF : F 1 = eR E) (hj : j < 5) (hL : okL E F j NE clk) (hNE : NE < 2000) (hK : eK E j ≤ 60) (hl : l < 64) : ∀ (m f i : Nat) (fd : Int32), i + m = eK E j → m < f →
    tL_asks_L291 n0 s0 x0 b x2 x3 x4 (b + (2 + 8 * j)) x10 (Int32.ofNat l) f fd (Int32.ofNat (NE - eK E j + i)) N = some (snc (evs F j) l m i fd (tT E j (NE - eK E j + i)), N) := by
  have eN1 : eN E j = NE := eN_of hL.1 (by omega)
  have hle : eK E j ≤ NE := by unfold eK; rw [eN1]; split <;> omega
  intro m
  induction m with
  | zero =>
    intro f i fd hi hf
    obtain ⟨f, rfl⟩ : ∃ g, f = g + 1 := ⟨f - 1, by omega⟩
    rw [tL_asks_L291, he.bI ho hj, Option.bind_some, hL.1, if_pos ((n_le (by omega) (by omega)).mpr (by omega))]; rfl
  | succ m ih =>
    intro f i fd hi hf
    obtain ⟨f, rfl⟩ : ∃ g, f = g + 1 := ⟨f - 1, by omega⟩
    obtain ⟨e0, e1, e2, -⟩ := ev_T hF hj hL hNE (show i < eK E j by omega) hK
    have e3 : aI N (b + (2 + 8 * j + (3 + 1))) 101 (Int32.ofNat (NE - eK E j + i)) = some (tS E j (NE - eK E j + i)) := he.eI ho hj (by omega) (by omega) (by omega)
    have gA6 : gA N (b + (2 + 8 * j)) 12 6 = some (b + (2 + 8 * j + (3 + 1))) := he.bA (j := 3) ho hj (by omega)
    have gA9 : gA N (b + (2 + 8 * j)) 12 9 = some (b + (2 + 8 * j + (6 + 1))) := he.bA (j := 6) ho hj (by omega)
    rw [tL_asks_L291, he.bI ho hj, Option.bind_some, hL.1, if_neg (fun g => by have := (n_le (by omega) (by omega)).mp g; omega), gA9, Option.bind_some, he.tJ ho hj (by omega), Option.bind_some, Option.bind_some, n_succ, he.tJ ho hj (by omega), Option.bind_some, snc, ← e1, e0]
    by_cases q : bt (tT E j (NE - eK E j + i) ^^^ tT E j (NE - eK E j + i + 1)) l = true
    · rw [if_pos ((bt_tr hl).mpr q), if_pos q, gA6, Option.bind_some, e3, Option.bind_some, tL_asks_J340_291, n_succ, show NE - eK E j + i + 1 = NE - eK E j + (i + 1) by omega]
      exact ih f (i + 1) _ (by omega) (by omega)
    · rw [if_neg (fun g => q ((bt_tr hl).mp g)), if_neg q, tL_asks_J340_291, n_succ, show NE - eK E j + i + 1 = NE - eK E j + (i + 1) by omega]
      exact ih f (i + 1) _ (by omega) (by omega)
theorem a_since3_L {x4 : Int32} (hj : j < n) (hn0 : n0 = M.2.1) (hs0 : s0 = M.2.2.1) : ∀ (i f p : Nat) (N : vMe), p + i = 3 → i < f → WW KK N x r b y u hz n clk E → N.2 = M.2 →
    ∃ N2, tL_asks_L255 n0 s0 x b y (Int32.ofNat j) x4 (b + (2 + 8 * j)) f (Int32.ofNat p) N = some (.inr (), N2) ∧ WW KK N2 x r b y u hz n clk E ∧ N2.2 = M.2 := by
  intro i
  induction i with
  | zero =>
    intro f p N hp hf w e
    obtain ⟨f, rfl⟩ : ∃ g, f = g + 1 := ⟨f - 1, by omega⟩
    exact ⟨N, by rw [tL_asks_L255, if_pos (show (3 : Int32) ≤ Int32.ofNat p from (n_le (a := 3) (by omega) (by omega)).mpr (by omega))], w, e⟩
  | succ i ih =>
    intro f p N hp hf w e
    obtain ⟨f, rfl⟩ : ∃ g, f = g + 1 := ⟨f - 1, by omega⟩
    obtain ⟨he, ho, g0, g1, hu1, hu64, hn5⟩ := WW_h w
    obtain ⟨l, N1, hl, d1, d2, w1⟩ := draw_W w hu1 (by omega)
    have w1' := w1
    obtain ⟨G, F, a, d, C, k, v1, v2, v3, v4, v5, v6, v7, v8⟩ := w1'
    have hj5 : j < 5 := by omega
    have hP := D_p v1
    obtain ⟨NE, hL⟩ := v3.2.2.2 j hj
    have hc : clk < 2000 := v3.2.1
    have hNE : NE < 2000 := by have := hL.2.1; omega
    obtain ⟨hz1, hz60⟩ := hP.1.2.1.2
    obtain ⟨R0, R1, R2, R3, R4, R5⟩ := R_h v2
    have e2 : gt E 0 2 = Int32.ofNat hz := R2.symm.trans hP.1.2.1.1
    have hK60 : eK E j ≤ 60 := by unfold eK; rw [eH_of e2 hz60]; split <;> omega
    have eN1 : eN E j = NE := eN_of hL.1 (by omega)
    have hle : eK E j ≤ NE := by unfold eK; rw [eN1]; split <;> omega
    have ck := e_kept (M := N1) (b := b) (hz := hz) hj5 hL.1 (by omega) hz60 e2
    rw [v4.eq v5] at ck
    have cs := a_since_L (n0 := n0) (s0 := s0) (x0 := x) (x2 := y) (l := l) (x3 := Int32.ofNat j) (x4 := x4) (x10 := Int32.ofNat p) v4 v5 v2 hj5 hL hNE hK60 (show l < 64 by omega) (eK E j) vF 0 (-1) (by omega) (by unfold vF; omega)
    have cq := Q_since v1 hj (R_3 v2 hj5) hK60 hl
    rw [base_T v2 hj5 hL hNE] at cq
    rw [Nat.add_zero] at cs
    have q0 : N1.2.1 + 0 ≤ n0 + 1 ∧ N1.2.2.1 + 0 ≤ s0 + 6 := by rw [d2, e, hn0, hs0]; exact ⟨by omega, by omega⟩
    have q1 : N1.2.1 + 1 ≤ n0 + 1 ∧ N1.2.2.1 + 6 ≤ s0 + 6 := by rw [d2, e, hn0, hs0]; exact ⟨by omega, by omega⟩
    obtain ⟨N2, z1, z2, z3⟩ := ih f (p + 1) N1 (by omega) (by omega) w1 (d2.trans e)
    refine ⟨N2, ?_, z2, z3⟩
    rw [tL_asks_L255, if_neg (show ¬ (3 : Int32) ≤ Int32.ofNat p from fun g => by have := (n_le (a := 3) (by omega) (by omega)).mp g; omega), he.I0 ho, Option.bind_some, g1, if_pos (by rw [e, hn0, hs0]; exact ⟨by omega, by omega⟩), d1, Option.bind_some]
    dsimp only
    rw [v4.bI v5 hj5, Option.bind_some, hL.1, v4.I0 v5, Option.bind_some, e2, if_pos q0, if_pos (v4.tB v5 hj5), ck, Option.bind_some, n_sub hle, cs, Option.bind_some]
    dsimp only
    rw [if_pos q1, if_pos (T_x v1.1.1), cq, Option.bind_some]
    simp only [Sum.elim_inl]
    rw [if_pos trivial, n_succ]
    exact z1
end
