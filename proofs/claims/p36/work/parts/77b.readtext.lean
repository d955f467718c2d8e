section
variable {M M1 N N2 : vMe} {x y a d b u hz n k len s v clk : Nat} {G C D E E1 E2 : Nat → Nat → Value} {P P2 : Nat → Value} {T : Nat → Nat} {Gs : Nat → Nat}
/-- the text that the law writes -/
def txT (u hz n : Nat) (scr : List (Bool × Nat × List Nat × Bool)) : List Nat := [115, 101, 116, 115] ++ ([32] ++ (dec u ++ ([32] ++ (dec hz ++ ([59] ++ (setsT n 0 ++ scrT scr))))))
set_option maxRecDepth 20000 in
/-- the class reads the law's text -/
theorem text_P {scr : List (Bool × Nat × List Nat × Bool)} {k2 : Nat} (S : PI x y d len T G N P D) (h5 : vI (P 5) = Int32.ofNat 0) (R : Rt T len 0 (txT u hz n scr)) (hd : tkD Gs) (wd : wds y d N Gs) (ws : wq y d N (Gs 13) [115, 101, 116, 115]) (hbz : bz D) (hb : N.2.2.2 ≤ N.2.1) (hu : 1 ≤ u ∧ u ≤ 64) (hh : 1 ≤ hz ∧ hz ≤ 60) (hn5 : n ≤ 5) (hn4 : n ≤ 4) (hz0 : zE u hz n E) (ho : ∀ q, q ∈ scr → scrO u n q) (hl : scr.length ≤ 4) (hR : scrR b scr E E2 0 k2) :
    ∃ N2 P2 D2 clk2, tX3_readText Gs y N = some (1, N2) ∧ PI x y d len T G N2 P2 D2 ∧ LK b u hz n k2 clk2 E2 D2 ∧ clk2 ≤ 24 ∧ nmS y d N2 D2 n ∧ bz D2 ∧ fy y d N N2 ∧ N2.2.1 ≤ N.2.1 + 25 ∧ N2.2.2.1 ≤ N.2.2.1 + 660 ∧ ∀ k, k < 3 ∨ 6 < k → P2 k = P k := by
  have hg := S.2.2.2
  have hS : hq isB (setsT n 0 ++ scrT scr) := hq_sets (hq_scr scr) n 0
  -- sets
  obtain ⟨P1, a1, S1, t1, R1, Q1, f1⟩ := nx (Gs := Gs) (c := 1) (bl := []) (w := [115, 101, 116, 115]) (l := [32] ++ (dec u ++ ([32] ++ (dec hz ++ ([59] ++ (setsT n 0 ++ scrT scr)))))) S h5 R (.inl rfl) (.inl ⟨rfl, by show 1 ≤ 4 ∧ 4 ≤ 8; omega, fun z hz => by
    have : z = 115 ∨ z = 101 ∨ z = 116 := by
      simp only [List.mem_cons, List.not_mem_nil, or_false] at hz
      omega
    unfold isL; omega, by show ¬ isL 32; unfold isL; omega⟩)
  have w1 := wW S1 t1 R1 (ws.mv fy_pv hg.2.2)
  rw [if_pos rfl] at w1
  obtain ⟨P2, a2, S2, t2, R2, Q2, f2⟩ := nx (Gs := Gs) (c := 2) (bl := [32]) (w := dec u) (l := [32] ++ (dec hz ++ ([59] ++ (setsT n 0 ++ scrT scr)))) S1 t1.2.2.1 Q1 (.inr rfl) (tk_dec (by omega) (by unfold isD; omega))
  rw [pv_pv] at a2 S2
  have pw : tX3_passWord Gs y (Gs 13) (pv N y P1) = some (1, pv N y P2) := by
    rw [tX3_passWord, if_pos (PI_t S1), w1, Option.bind_some]
    dsimp only
    rw [if_neg n10, if_pos (PI_t S1), a2, Option.bind_some]
  -- the universe
  have v2 := num_v t2 R2 (by omega)
  have i2 := isN (lo := 1) (hi := 64) (z1 := 1) (z2 := 64) S2 t2 v2 rfl rfl hu.1 hu.2 (by omega)
  obtain ⟨P3, a3, S3, t3, R3, Q3, f3⟩ := nx (Gs := Gs) (c := 2) (bl := [32]) (w := dec hz) (l := [59] ++ (setsT n 0 ++ scrT scr)) S2 t2.2.2.1 Q2 (.inr rfl) (tk_dec (by omega) (by unfold isD; omega))
  rw [pv_pv] at a3 S3
  -- the horizon
  have v3 := num_v t3 R3 (by omega)
  have i3 := isN (lo := 1) (hi := 60) (z1 := 1) (z2 := 60) S3 t3 v3 rfl rfl hh.1 hh.2 (by omega)
  have g3 : gA (pv N y P3) y 6 2 = some d := PI_A S3 S3.2.1.2.2.1
  obtain ⟨C2, c1, c2, c3, c4⟩ := LPj_0 (u := u) (hz := hz) S3.2.2.1.2 hu hh hbz
  rw [S3.2.2.1.1.eq] at c1
  have S4 := PI_cv S3 c2
  obtain ⟨P5, a5, S5, t5, R5, Q5, f5⟩ := nx (Gs := Gs) (c := 3) (bl := []) (w := [59]) (l := setsT n 0 ++ scrT scr) S4 t3.2.2.1 Q3 (.inl rfl) (.inr (.inr (.inl ⟨rfl, rfl⟩)))
  obtain ⟨P6, a6, S6, H6, f6⟩ := semi_P S5 t5 R5 hS
  rw [pv_pv] at a6 S6
  have fy6 : fy y d N (pv (cv (pv N y P3) d C2) y P6) := (fy_pv.tr fy_cv).tr fy_pv
  obtain ⟨N7, P7, D7, f7, m7, p7, z1, z2, z3, z4, z5, z6, z7, z8, z9, z10, z11, z12⟩ := psets_L (n0 := N.2.1) (s0 := N.2.2.1) (r := scrT scr) hd hn5 (hq_scr scr) n vF 0 _ 0 (pv (cv (pv N y P3) d C2) y P6) P6 C2 (by omega) (by unfold vF; omega) (Nat.zero_le _) S6 H6 c3 (fun s hs => by omega) (wd.mv fy6 hg.2.2) c4 hb (by show N.2.1 + 4 * n + 1 ≤ _; omega) (by show N.2.2.1 + 25 * n + 375 ≤ _; omega)
  have e1 : N7.2.1 = N.2.1 + 4 * n := by rw [z11]; rfl
  have e2 : N7.2.2.1 = N.2.2.1 + 25 * n := by rw [z11]; rfl
  obtain ⟨N8, P8, D8, clk8, y1, y2, y3, y4, y5, y6, y7, y8, y9⟩ := pscr_L (n0 := N.2.1) (s0 := N.2.2.1) (b := b) hd scr f7 m7 p7 0 0 k2 N7 P7 D7 E (by unfold vF at z2; omega) z3 z4 z5 ho (LK_new hz0 z6) (by omega) (by omega) hR (fun c _ => hz0.2.1 c) z7 z8 z9 (by omega) (by omega)
  have e3 : N8.2.1 = N.2.1 + 4 * n := by rw [y8]; exact e1
  have e4 : N8.2.2.1 = N.2.2.1 + 25 * n := by rw [y8]; exact e2
  refine ⟨N8, P8, D8, clk8, ?_, y2, y3, by omega, y5, y6, (fy6.tr z10).tr y7, by omega, by omega, fun z hz => by rw [y9 z hz, z12 z hz, f6 z hz, f5 z hz, f3 z hz, f2 z hz, f1 z hz]⟩
  rw [tX3_readText, if_pos ⟨by omega, by omega⟩, if_pos (PI_t S), a1, Option.bind_some]
  dsimp only
  rw [if_pos ⟨by show N.2.1 + 0 ≤ _; omega, by show N.2.2.1 + 0 ≤ _; omega⟩, if_pos (PI_t S1), pw, Option.bind_some]
  dsimp only
  rw [if_neg n10, if_pos ⟨by show N.2.1 + 0 ≤ _; omega, by show N.2.2.1 + 0 ≤ _; omega⟩, if_pos (PI_t S2), i2, Option.bind_some]
  dsimp only
  rw [if_neg n10, PI_I S2, Option.bind_some, v2, if_pos ⟨by show N.2.1 + 0 ≤ _; omega, by show N.2.2.1 + 0 ≤ _; omega⟩, if_pos (PI_t S2), a3, Option.bind_some]
  dsimp only
  rw [if_pos ⟨by show N.2.1 + 0 ≤ _; omega, by show N.2.2.1 + 0 ≤ _; omega⟩, if_pos (PI_t S3), i3, Option.bind_some]
  dsimp only
  rw [if_neg n10, g3, Option.bind_some, PI_I S3, Option.bind_some, v3, if_pos ⟨by show N.2.1 + 0 ≤ _; omega, by show N.2.2.1 + 0 ≤ _; omega⟩, if_pos (PI_tB S3), c1, Option.bind_some]
  dsimp only
  rw [if_pos ⟨by show N.2.1 + 0 ≤ _; omega, by show N.2.2.1 + 0 ≤ _; omega⟩, if_pos (PI_t S4), a5, Option.bind_some]
  dsimp only
  rw [if_pos ⟨by show N.2.1 + 0 ≤ _; omega, by show N.2.2.1 + 0 ≤ _; omega⟩, if_pos (PI_t S5), a6, Option.bind_some]
  dsimp only
  rw [show tX3_readText_L69 Gs N.2.1 N.2.2.1 y vF 1 0 (pv (cv (pv N y P3) d C2) y P6) = some (1, N8) from z1.trans y1, Option.bind_some]
  dsimp only
  rw [if_pos ⟨by omega, by omega⟩]
  rfl
end
