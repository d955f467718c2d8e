section
variable {KK : Nat → vOb} {M N : vMe} {x r b y u hz n k lo lw A p n0 s0 : Nat} {G F C E E2 : Nat → Nat → Value} {Gs : Nat → Nat} {l : List Nat}
set_option maxRecDepth 20000 in
/-- from the second draw on -/
theorem J57_P {m : Nat} (hm : 1 ≤ m ∧ m ≤ 60) (st : stK KK x Gs) (zb : zB E) (hu : 1 ≤ u ∧ u ≤ 64) (w : CW KK (cut N lo) x r b y (pu E 0 1 (.int (Int32.ofNat u)))) (hl : N.2.1 = lo) (hb44 : lo = b + 44) (hn0 : n0 + 44 = lo) (h2 : N.2.2.1 ≤ s0 + 50000) (hF : ∀ i, i < 600 → fits .byte ((N.1 (x + 2)).2.2 i) = true) (hD : ∀ d : Nat, (N.1 x).2.2 4 = .ref d → d + 50 ≤ b ∧ ∀ c, c < 6 → ∀ j, j < 3 → fits .boolean ((N.1 (d + (44 + c))).2.2 j) = true) (hx : x + 8 ≤ b) (hy : ∀ d : Nat, (N.1 x).2.2 4 = .ref d → (y < d ∨ d + 50 ≤ y)) (hxy : y < x ∨ x + 8 ≤ y) :
    ∃ N9 E9 clk9 hz n, tL_plays_J57 Gs n0 s0 x y b b 1 y (Int32.ofNat m) N = some (1, N9) ∧ WW KK N9 x r b y u hz n clk9 E9 ∧ N9.2.1 ≤ n0 + 4000 ∧ N9.2.2.1 ≤ s0 + 200000 := by
  obtain ⟨j, N1, hj, d1, d2, d3, w1⟩ := draw_C w hm.1 (by omega)
  obtain ⟨N2, e1, e2, e3, w2⟩ := cw_S0 (j := 2) (v := Int32.ofNat (1 + j)) w1 (by omega)
  obtain ⟨i, N3, hi, f1, f2, f3, w3⟩ := draw_C w2 (show 1 ≤ 4 by omega) (by omega)
  obtain ⟨N4, g1, g2, g3, w4⟩ := cw_S0 (j := 0) (v := Int32.ofNat (1 + i)) w3 (by omega)
  obtain ⟨hz, ehz⟩ : ∃ hz, hz = 1 + j := ⟨_, rfl⟩
  obtain ⟨n, en⟩ : ∃ n, n = 1 + i := ⟨_, rfl⟩
  rw [← ehz] at e1 g3 w2 w3 w4
  rw [← en] at g1 w4
  have zE0 : zE u hz n _ := zB_E (u := u) (hz := hz) (n := n) zb
  have a1 : N4.2 = N.2 := by rw [g2, f2, e2, d2]
  have b1 : N4.2.1 = lo := by rw [a1]; exact hl
  have b2 : N4.2.2.1 = N.2.2.1 := by rw [a1]
  have fr4 : ∀ z, z < b → z ≠ y → N4.1 z = N.1 z := fun z h1 h2 => by
    have ne : ∀ {W : vMe} {X : Nat → Nat → Value}, CW KK (cut W lo) x r b y X → ¬ eA b X z := fun w g => by
      have := eA_ge (CW_h w).2.1 g
      omega
    rw [g3 z (ne w3), f3 z h2, e3 z (ne w1), d3 z h2]
  obtain ⟨W1, p1, s1, s2, s3, s4, s5, s6, s7⟩ := hd_P (Gs := Gs) (n0 := n0) (s0 := s0) w4 st b1 hu.2 (show hz ≤ 64 by omega) zE0.1.2.1 zE0.1.2.2.1 (by omega) (by omega)
  have w5 : CW KK (cut W1 lo) x r b y _ := CW_cut w4 s2 s6
  obtain ⟨N6, p2, cap2, E2, k2, clk2, scr, c1, c2, c3, c4, c5, c6, c7, c8, c9, c10, c11, c12, c13, c14⟩ := plC_P (Gs := Gs) (n0 := n0) (s0 := s0) w5 st zE0 hu ⟨by omega, by omega⟩ ⟨by omega, by omega⟩ s1 s3 (by omega) (by omega)
  have nE : ∀ z, z < b → ¬ eA b (pu (pu (pu E 0 1 (.int (Int32.ofNat u))) 0 2 (.int (Int32.ofNat hz))) 0 0 (.int (Int32.ofNat n))) z := fun z hz g => by
    have := eA_ge (CW_h w4).2.1 g
    omega
  have fr6 : ∀ z, z < b → z ≠ y → N6.1 z = N.1 z := fun z h1 h2 => by
    rw [c9 z (by omega) h2 (nE z h1), s2 z (by omega), fr4 z h1 h2]
  have x0 : N6.1 x = N.1 x := fr6 x (by omega) (by omega)
  obtain ⟨N9, E9, clk9, r1, r2, r3, r4⟩ := plD_P (Gs := Gs) (n0 := n0) (s0 := s0) c4 st zE0 hu ⟨by omega, by omega⟩ ⟨by omega, by omega⟩ c2 c3 c5 c6 c7 c8 (fun i hi => by rw [fr6 (x + 2) (by omega) (by omega)]; exact hF i hi) (fun d hd c hc j hj => by
    rw [x0] at hd
    obtain ⟨q1, q2⟩ := hD d hd
    have q3 := hy d hd
    rw [fr6 _ (by omega) (by omega)]; exact q2 c hc j hj) c11 (by omega) (by omega)
  refine ⟨N9, E9, clk9, hz, n, ?_, r2, r3, r4⟩
  have k1 : N2.2.1 = lo := by rw [e2, d2]; exact hl
  have k2' : N2.2.2.1 = N.2.2.1 := by rw [e2, d2]
  rw [tL_plays_J57, if_pos ⟨by omega, by omega⟩, d1, Option.bind_some]
  dsimp only
  rw [show (1 : Int32) + Int32.ofNat j = Int32.ofNat hz from by rw [ehz]; exact n_add 1 j, e1, Option.bind_some, if_pos ⟨by omega, by omega⟩, show tL_draw y 4 N2 = tL_draw y (Int32.ofNat 4) N2 from rfl, f1, Option.bind_some]
  dsimp only
  rw [show (1 : Int32) + Int32.ofNat i = Int32.ofNat n from by rw [en]; exact n_add 1 i, g1, Option.bind_some]
  refine (s7 (plC Gs n0 s0 x y b N4.2.1)).trans ?_
  rw [b1, c1]
  exact r1
set_option maxRecDepth 20000 in
/-- A PLAY -/
theorem plays_P (w : PW KK M x r y) (st : stK KK x Gs) (hwb : wb M) (hwf : wf M) : ∃ N9, tL_plays Gs x y M = some (1, N9) ∧ N9.2.1 ≤ M.2.1 + 4000 ∧ N9.2.2.1 ≤ M.2.2.1 + 200000 ∧ ∃ u hz n clk E, WW KK N9 x r M.2.1 y u hz n clk E := by
  obtain ⟨W, E, a1, a2, a3, a4, a5, a6⟩ := pl_begin w
  obtain ⟨G, F, a, d, C, u0, hz0, n1, k0, w1, w2, w3, ⟨y1, y2, y3, y4, y5, y6⟩, w5, w6⟩ := w
  obtain ⟨⟨g1, g2, -, -, g5, g6⟩, ⟨-, gd, -, -⟩, bc, -⟩ := id w1
  have hx : x + 8 ≤ M.2.1 := by omega
  have e1 : W.2.1 = M.2.1 + 44 := by rw [a3]
  have e2 : W.2.2.1 = M.2.2.1 + 41043 := by rw [a3]
  have nown : ∀ q, own x r G q → q ≠ y := fun q g e => y5 (e ▸ g)
  have hxy : y < x ∨ x + 8 ≤ y := by
    by_cases c : x ≤ y ∧ y < x + 8
    · exact absurd (.inl c) y5
    · omega
  obtain ⟨⟨d1, d2, -⟩, Ed, d4, d5⟩ := bc 1 d (by omega) (bk1 gd)
  have hyd : y < d ∨ d + 50 ≤ y := by
    by_cases c : d ≤ y ∧ y < d + 50
    · exact absurd (own_bk (i := 1) (by omega) (bk1 gd) c.1 c.2) y5
    · omega
  -- what holds as long as nothing below is changed but the draws
  have base : ∀ N : vMe, (∀ z, z < M.2.1 → z ≠ y → N.1 z = M.1 z) → (∀ i, i < 600 → fits .byte ((N.1 (x + 2)).2.2 i) = true) ∧ (∀ d' : Nat, (N.1 x).2.2 4 = .ref d' → d' + 50 ≤ M.2.1 ∧ ∀ c, c < 6 → ∀ j, j < 3 → fits .boolean ((N.1 (d' + (44 + c))).2.2 j) = true) ∧ ∀ d' : Nat, (N.1 x).2.2 4 = .ref d' → (y < d' ∨ d' + 50 ≤ y) := fun N hN => by
    have ex : N.1 x = (11, 0, G 0) := by
      rw [hN x (by omega) (by omega)]
      have e := g1 0 (by omega)
      rw [Nat.add_zero] at e
      rw [e]; rfl
    have dd : ∀ d' : Nat, (N.1 x).2.2 4 = .ref d' → d' = d := fun d' h => by
      rw [ex] at h
      have h' : G 0 4 = .ref d' := h
      rw [gd] at h'
      cases h'; rfl
    refine ⟨fun i hi => ?_, fun d' h => ?_, fun d' h => by rw [dd d' h]; exact hyd⟩
    · rw [hN (x + 2) (by omega) (by omega)]
      have e := g1 2 (by omega)
      exact hwb (x + 2) (by rw [e]; rfl) i (by rw [e]; exact hi)
    · rw [dd d' h]
      refine ⟨d2, fun c hc j hj => ?_⟩
      rw [hN (d + (44 + c)) (by omega) (by omega)]
      have e := d4 (44 + c) (by omega)
      refine hwf (d + (44 + c)) ?_ j hj
      rw [e]
      show (cT (44 + c)).1 = 3
      rcases (show c = 0 ∨ c = 1 ∨ c = 2 ∨ c = 3 ∨ c = 4 ∨ c = 5 by omega) with rfl | rfl | rfl | rfl | rfl | rfl <;> rfl
  obtain ⟨q, W1, hq, b1, b2, b3, b4⟩ := draw_C a5 (show 1 ≤ 3 by omega) (by omega)
  have hlo : ∀ N : vMe, N.2 = W.2 → N.2.1 = M.2.1 + 44 ∧ N.2.2.1 = M.2.2.1 + 41043 := fun N h => ⟨by rw [h]; exact e1, by rw [h]; exact e2⟩
  -- with the universe drawn
  have fin : ∀ (m u : Nat) (W2 : vMe), 1 ≤ u → u ≤ 64 → W2.2 = W.2 → (∀ z, z ≠ y → W2.1 z = W.1 z) → CW KK (cut W2 (M.2.1 + 44)) x r M.2.1 y E → ∃ N9 E9 clk9 hz n, tL_plays_J36 Gs M.2.1 M.2.2.1 x y M.2.1 M.2.1 (Int32.ofNat u) W2 = some (1, N9) ∧ WW KK N9 x r M.2.1 y u hz n clk9 E9 ∧ N9.2.1 ≤ M.2.1 + 4000 ∧ N9.2.2.1 ≤ M.2.2.1 + 200000 := fun m u W2 hu1 hu2 hW fW cw => by
    obtain ⟨l1, l2⟩ := hlo W2 hW
    obtain ⟨W3, c1, c2, c3, c4⟩ := cw_S0 (j := 1) (v := Int32.ofNat u) cw (by omega)
    obtain ⟨q, W4, hq, f1, f2, f3, f4⟩ := draw_C c4 (show 1 ≤ 2 by omega) (by omega)
    have l3 : W4.2 = W.2 := by rw [f2, c2]; exact hW
    obtain ⟨l4, l5⟩ := hlo W4 l3
    have l6 : W3.2.1 = M.2.1 + 44 ∧ W3.2.2.1 = M.2.2.1 + 41043 := hlo W3 (by rw [c2]; exact hW)
    have frz : ∀ z, z < M.2.1 → z ≠ y → W4.1 z = M.1 z := fun z h1 h2 => by
      have ne : ¬ eA M.2.1 E z := fun g => by have := eA_ge (CW_h cw).2.1 g; omega
      rw [f3 z h2, c3 z ne, fW z h2, a4 z h1]
    obtain ⟨o1, o2, o3⟩ := base W4 frz
    have go := fun (m : Nat) (hm : 1 ≤ m ∧ m ≤ 60) => J57_P (Gs := Gs) (n0 := M.2.1) (s0 := M.2.2.1) (m := m) hm st a6 ⟨hu1, hu2⟩ f4 l4 rfl rfl (by omega) o1 o2 hx o3 hxy
    rw [tL_plays_J36, c1, Option.bind_some, if_pos ⟨by omega, by omega⟩, show tL_draw y 2 W3 = tL_draw y (Int32.ofNat 2) W3 from rfl, f1, Option.bind_some]
    dsimp only
    by_cases c : Int32.ofNat q = 0
    · rw [if_pos c]; exact go 60 ⟨by omega, by omega⟩
    · rw [if_neg c]; exact go 8 ⟨by omega, by omega⟩
  obtain ⟨l1, l2⟩ := hlo W1 b2
  have start : ∀ R, (if Int32.ofNat q = 0 then (if W1.2.1 + 0 ≤ M.2.1 + 4000 ∧ W1.2.2.1 + 0 ≤ M.2.2.1 + 200000 then ((tL_draw y 64 W1).bind fun z5 => tL_plays_J36 Gs M.2.1 M.2.2.1 x y M.2.1 M.2.1 (1 + z5.1) z5.2) else none) else (if W1.2.1 + 0 ≤ M.2.1 + 4000 ∧ W1.2.2.1 + 0 ≤ M.2.2.1 + 200000 then ((tL_draw y 10 W1).bind fun z81 => tL_plays_J36 Gs M.2.1 M.2.2.1 x y M.2.1 M.2.1 (2 + z81.1) z81.2) else none)) = R → tL_plays Gs x y M = R := fun R hR => by
    rw [tL_plays, a1, Option.bind_some, if_pos ⟨by show M.2.1 + 1 + 43 ≤ _; omega, by show M.2.2.1 + 9 + 41034 ≤ _; omega⟩, a2, Option.bind_some]
    dsimp only
    rw [if_pos ⟨by omega, by omega⟩, show tL_draw y 3 W = tL_draw y (Int32.ofNat 3) W from rfl, b1, Option.bind_some]
    exact hR
  by_cases c : Int32.ofNat q = 0
  · obtain ⟨v, W2, hv, f1, f2, f3, f4⟩ := draw_C b4 (show 1 ≤ 64 by omega) (by omega)
    obtain ⟨N9, E9, clk9, hz, n, r1, r2, r3, r4⟩ := fin 0 (1 + v) W2 (by omega) (by omega) (f2.trans b2) (fun z hz => (f3 z hz).trans (b3 z hz)) f4
    refine ⟨N9, start _ ?_, r3, r4, _, _, _, _, _, r2⟩
    rw [if_pos c, if_pos ⟨by omega, by omega⟩, show tL_draw y 64 W1 = tL_draw y (Int32.ofNat 64) W1 from rfl, f1, Option.bind_some]
    dsimp only
    rw [show (1 : Int32) + Int32.ofNat v = Int32.ofNat (1 + v) from n_add 1 v]
    exact r1
  · obtain ⟨v, W2, hv, f1, f2, f3, f4⟩ := draw_C b4 (show 1 ≤ 10 by omega) (by omega)
    obtain ⟨N9, E9, clk9, hz, n, r1, r2, r3, r4⟩ := fin 0 (2 + v) W2 (by omega) (by omega) (f2.trans b2) (fun z hz => (f3 z hz).trans (b3 z hz)) f4
    refine ⟨N9, start _ ?_, r3, r4, _, _, _, _, _, r2⟩
    rw [if_neg c, if_pos ⟨by omega, by omega⟩, show tL_draw y 10 W1 = tL_draw y (Int32.ofNat 10) W1 from rfl, f1, Option.bind_some]
    dsimp only
    rw [show (2 : Int32) + Int32.ofNat v = Int32.ofNat (2 + v) from n_add 2 v]
    exact r1
end
