section
variable {M N : vMe} {x r a d b y u hz n k clk n0 s0 : Nat} {G F C E : Nat → Nat → Value}
/-- how many a cursor will still meet, by the law -/
theorem s_ahead_L {c q s m x2 : Nat} (hR : RD N x r b u hz n k a d G F C E) (hF : F 1 = eR E) (hc : c < 6) (hq : E 42 c = .ref q) (hs : s < n) (h0 : E (44 + c) 0 = .ref (b + (2 + 8 * s))) (h6 : gt E (44 + c) 6 ≠ 0) (hm : oS F s 0 = Int32.ofNat m) (hm64 : m ≤ 64) (h1 : N.2.1 + 0 ≤ n0 + 16) (h2 : N.2.2.1 + 0 ≤ s0 + 100) : ∀ (i f p v : Nat), p + i = m → i < f →
    tL_state_L548 n0 s0 x b (Int32.ofNat x2) q f (Int32.ofNat v) (Int32.ofNat p) N = some (Int32.ofNat (v + sumU (ahU F c s) i p), N) := by
  have hP := D_p hR.1
  have hs5 : s < 5 := by have := hP.1.2.2.1.2; omega
  have hu := hP.1.1.2.2
  obtain ⟨hD, he, ho⟩ := hR
  have em : gt E (2 + 8 * s) 0 = Int32.ofNat m := (R_0 hF hs5).symm.trans hm
  intro i
  induction i with
  | zero =>
    intro f p v hp hf
    obtain ⟨f, rfl⟩ : ∃ g, f = g + 1 := ⟨f - 1, by omega⟩
    rw [tL_state_L548, he.vI ho hc hq, Option.bind_some, if_neg h6, he.vA ho hc hq h0, Option.bind_some, he.bI ho hs5, Option.bind_some, em, if_pos ((n_le (by omega) (by omega)).mpr (by omega))]; rfl
  | succ i ih =>
    intro f p v hp hf
    obtain ⟨f, rfl⟩ : ∃ g, f = g + 1 := ⟨f - 1, by omega⟩
    obtain ⟨x1, x2', x3, x4⟩ := numP_at (hP.2.2.2.2.2 s hs).2 hu hm hm64 (show p < m by omega)
    have eme : gt E (2 + 8 * s + (0 + 1)) p = Int32.ofNat (numP F s p) := (R_m hF hs5 (by omega)).symm.trans x1
    have mt := e_meets (M := N) (x := numP F s p) ho hc hq hs5 h0 hF (by omega)
    rw [he.eq ho] at mt
    rw [tL_state_L548, he.vI ho hc hq, Option.bind_some, if_neg h6, he.vA ho hc hq h0, Option.bind_some, he.bI ho hs5, Option.bind_some, em, if_neg (fun g => by have := (n_le (by omega) (by omega)).mp g; omega), Option.bind_some]
    rw [he.bA (j := 0) ho hs5 (by omega), Option.bind_some, he.mI ho hs5 (by omega) (by omega), Option.bind_some, eme, if_pos ⟨h1, h2⟩, if_pos (he.vT hc hq), mt, Option.bind_some, sumU]
    rcases mtF_01 F c (oS F s (134 + numP F s p)) with e | e
    · rw [if_pos e, tL_state_J591_548, Int32.add_zero, n_succ, ih f (p + 1) v (by omega) (by omega), if_neg (by unfold ahU; rw [e]; decide), Nat.zero_add]
    · rw [if_neg (by rw [e]; decide), tL_state_J591_548, n_succ, n_succ, ih f (p + 1) (v + 1) (by omega) (by omega), if_pos (by unfold ahU; rw [e]; decide), Nat.add_assoc]
theorem s_cur_L {c q t : Nat} {V : Nat → Value} (hR : RD N x r b u hz n k a d G F C E) (hc : c < 6) (h0 : oC F c 0 = 1) (ht : N.1 t = (101, 7, V)) (hV : ∀ l, l < 7 → vI (V l) = if l = 6 then oC F c 7 - 1 else oC F c (l + 1)) (h1 : N.2.1 + 1 ≤ n0 + 16) (h2 : N.2.2.1 + 6 ≤ s0 + 100) : ∀ (i f p : Nat), p + i = 7 → i < f → tL_state_L509 n0 s0 x b (Int32.ofNat c) q t f (Int32.ofNat p) N = some (.inr (), N) := by
  intro i
  induction i with
  | zero =>
    intro f p hp hf
    obtain ⟨f, rfl⟩ : ∃ g, f = g + 1 := ⟨f - 1, by omega⟩
    rw [tL_state_L509, if_pos (show (7 : Int32) ≤ Int32.ofNat p from (n_le (a := 7) (by omega) (by omega)).mpr (by omega))]
  | succ i ih =>
    intro f p hp hf
    obtain ⟨f, rfl⟩ : ∃ g, f = g + 1 := ⟨f - 1, by omega⟩
    rw [tL_state_L509, if_neg (show ¬ (7 : Int32) ≤ Int32.ofNat p from fun g => by have := (n_le (a := 7) (by omega) (by omega)).mp g; omega), if_pos ⟨h1, h2⟩, if_pos (T_x hR.1.1.1), Q_cursor hR.1 hc h0 (show p < 7 by omega), Option.bind_some]
    simp only [Sum.elim_inl]
    rw [a_aI ht (by omega) (by omega), Option.bind_some, hV p (by omega), if_pos rfl, n_succ]
    exact ih f (p + 1) (by omega) (by omega)
theorem s_cursors_L (hR : RD M x r b u hz n k a d G F C E) (hA : ∀ q, eA b E q → q < M.2.1) (hF : F 1 = eR E) (hK : okE b E F n clk) (hb : M.2.2.2 ≤ M.2.1) : ∀ (i f p : Nat) (N : vMe), p + i = 6 → i < f → ext M N → N.2.1 ≤ M.2.1 + 5 + p → N.2.2.1 ≤ M.2.2.1 + 25 + 7 * p →
    ∃ N2, tL_state_L414 M.2.1 M.2.2.1 x b f (Int32.ofNat p) N = some (.inr (), N2) ∧ ext M N2 ∧ N2.2.1 ≤ M.2.1 + 11 ∧ N2.2.2.1 ≤ M.2.2.1 + 67 := by
  have hP := D_p hR.1
  have hn5 := hP.1.2.2.1.2
  have RU : ∀ {N}, ext M N → RD N x r b u hz n k a d G F C E := fun e => hR.up hA e
  intro i
  induction i with
  | zero =>
    intro f p N hp hf e h1 h2
    obtain ⟨f, rfl⟩ : ∃ g, f = g + 1 := ⟨f - 1, by omega⟩
    exact ⟨N, by rw [tL_state_L414, if_pos (show (6 : Int32) ≤ Int32.ofNat p from (n_le (a := 6) (by omega) (by omega)).mpr (by omega))], e, by omega, by omega⟩
  | succ i ih =>
    intro f p N hp hf e h1 h2
    obtain ⟨f, rfl⟩ : ∃ g, f = g + 1 := ⟨f - 1, by omega⟩
    have hc : p < 6 := by omega
    obtain ⟨hD, he, ho⟩ := RU e
    rw [tL_state_L414, if_neg (show ¬ (6 : Int32) ≤ Int32.ofNat p from fun g => by have := (n_le (a := 6) (by omega) (by omega)).mp g; omega), he.A7 ho, Option.bind_some, he.cR ho hc, Option.bind_some]
    rcases hK.2.2.1 p hc with g | ⟨q, s, g1, g2, g3, g4, g5, g6⟩
    · rw [if_pos (by rw [g]; rfl), tL_state_J612_414, n_succ]
      exact ih f (p + 1) N (by omega) (by omega) e (by omega) (by omega)
    rw [g1, if_neg (show ¬ vR (Value.ref q) = none from fun g => by cases g), show vR (Value.ref q) = some q from rfl, Option.bind_some]
    have u1 : oC F p 0 = 1 := (use_P hP hF hc).2 (by rw [g1]; exact fun g => by cases g)
    obtain ⟨r0, r1, r2, r3, r4, r5, r6, r7⟩ := R_c hF hc
    have hs5 : s < 5 := by omega
    obtain ⟨m, m1, m2⟩ := okS_m (hP.2.2.2.2.2 s g2).2
    have hu := hP.1.1.2.2
    obtain ⟨pp, p1, p2⟩ : ∃ pp, pp ≤ 64 ∧ oC F p 2 = Int32.ofNat pp := by
      rcases hP.2.2.2.1 p hc with ⟨g, -⟩ | ⟨-, -, -, -, -, -, -, -, -, -, -, -, w, -⟩
      · rw [g] at u1; exact absurd u1 (by decide)
      · exact w
    obtain ⟨y1, hy1⟩ : ∃ y1 : Int32, y1 = if gt E (44 + p) 6 = 0 then 0 else 1 := ⟨_, rfl⟩
    obtain ⟨y2, hy2⟩ : ∃ y2 : Int32, y2 = if gt E (44 + p) 7 = 0 then 0 else 1 := ⟨_, rfl⟩
    have ey1 : y1 = gt E (44 + p) 6 := by rw [hy1]; rcases g5 with e | e <;> rw [e] <;> decide
    have ey2 : y2 = gt E (44 + p) 7 := by rw [hy2]; rcases g6 with e | e <;> rw [e] <;> decide
    obtain ⟨N1, a1, a2, a3, a4⟩ := a_nw (N := N) (len := 7) (n0 := M.2.1) (s0 := M.2.2.1) (mc := 16) (ms := 100) (by omega) (by omega) (by omega)
    obtain ⟨t, ht⟩ : ∃ t, t = N.2.1 := ⟨_, rfl⟩
    rw [← ht] at a2
    have htM : M.2.1 ≤ t := by have := e.2.1; omega
    have x1 : ext M N1 := e.tr a3
    have b1 : N1.2.2.2 ≤ t := by rw [x1.2.2]; omega
    obtain ⟨N2, b2, b3, b4, b5⟩ := a_sA (i := 0) (v := .int (gt E (44 + p) 1)) a2 (by omega) (by omega) b1
    have x2 : ext M N2 := ext_wr x1 htM b4 b5
    obtain ⟨N3, d2, d3, d4, d5⟩ := a_sA (i := 1) (v := .int (gt E (44 + p) 2)) b3 (by omega) (by omega) (by rw [b4]; exact b1)
    have x3 : ext M N3 := ext_wr x2 htM d4 d5
    obtain ⟨N4, f2, f3, f4, f5⟩ := a_sA (i := 2) (v := .int y1) d3 (by omega) (by omega) (by rw [d4, b4]; exact b1)
    have x4 : ext M N4 := ext_wr x3 htM f4 f5
    obtain ⟨N5, k2, k3, k4, k5⟩ := a_sA (i := 3) (v := .int y2) f3 (by omega) (by omega) (by rw [f4, d4, b4]; exact b1)
    have x5 : ext M N5 := ext_wr x4 htM k4 k5
    obtain ⟨N6, l2', l3', l4', l5'⟩ := a_sA (i := 4) (v := .int (gt E (44 + p) 3)) k3 (by omega) (by omega) (by rw [k4, f4, d4, b4]; exact b1)
    have x6 : ext M N6 := ext_wr x5 htM l4' l5'
    obtain ⟨N7, o2, o3, o4, o5⟩ := a_sA (i := 5) (v := .int (gt E (44 + p) 4)) l3' (by omega) (by omega) (by rw [l4', k4, f4, d4, b4]; exact b1)
    have x7 : ext M N7 := ext_wr x6 htM o4 o5
    obtain ⟨N8, q2, q3, q4, q5⟩ := a_sA (i := 6) (v := .int (gt E (44 + p) 5)) o3 (by omega) (by omega) (by rw [o4, l4', k4, f4, d4, b4]; exact b1)
    have x8 : ext M N8 := ext_wr x7 htM q4 q5
    have s8 : N8.2 = (N.2.1 + 1, N.2.2.1 + 7, N.2.2.2) := by rw [q4, o4, l4', k4, f4, d4, b4, a4]
    have k1 : N8.2.1 + 1 ≤ M.2.1 + 16 := by rw [s8]; show N.2.1 + 1 + 1 ≤ _; omega
    have k2' : N8.2.2.1 + 6 ≤ M.2.2.1 + 100 := by rw [s8]; show N.2.2.1 + 7 + 6 ≤ _; omega
    have w1 := s_cur_L (n0 := M.2.1) (s0 := M.2.2.1) (q := q) (RU x8) hc u1 q3 (fun l hl => by
      rcases (show l = 0 ∨ l = 1 ∨ l = 2 ∨ l = 3 ∨ l = 4 ∨ l = 5 ∨ l = 6 by omega) with rfl | rfl | rfl | rfl | rfl | rfl | rfl
      · simp only [updV]; simp; exact r1.symm
      · simp only [updV]; simp; exact r2.symm
      · simp only [updV]; simp; exact ey1.trans r3.symm
      · simp only [updV]; simp; exact ey2.trans r4.symm
      · simp only [updV]; simp; exact r5.symm
      · simp only [updV]; simp; exact r6.symm
      · simp only [updV]; simp; rw [r7, Int32.add_sub_cancel]; rfl) k1 k2' 7 vF 0 (by omega) (by unfold vF; omega)
    have ep : gt E (44 + p) 2 = Int32.ofNat pp := r2.symm.trans p2
    have w2 : tL_state_L548 M.2.1 M.2.2.1 x b (Int32.ofNat p) q vF 0 (Int32.ofNat pp) N8 = some (if oC F p 3 = 0 then 0 else Int32.ofNat (sumU (ahU F p s) (m - pp) pp), N8) := by
      obtain ⟨hD8, he8, ho8⟩ := RU x8
      by_cases o : gt E (44 + p) 6 = 0
      · rw [if_pos (r3.trans o), show vF = 99999 + 1 from rfl, tL_state_L548, he8.vI ho8 hc g1, Option.bind_some, if_pos o]
      · have o1 : oC F p 3 = 1 := r3.trans (g5.resolve_left o)
        have hpm : pp ≤ m := hP.2.2.2.2.1 p s pp m hc g2 ⟨u1, o1, r1.trans g4⟩ p2 p1 m2 (by omega)
        have := s_ahead_L (n0 := M.2.1) (s0 := M.2.2.1) (x2 := p) (RU x8) hF hc g1 g2 g3 o m2 (by omega) (by omega) (by omega) (m - pp) vF pp 0 (by omega) (by unfold vF; omega)
        rw [if_neg (by rw [r3]; exact o), show (0 : Int32) = Int32.ofNat 0 from rfl, this, Nat.zero_add]
    have w3 := Q_ahead (RU x8).1 hc u1 g2 (r1.trans g4) m2 (by omega) p2 p1
    obtain ⟨Ne, z1, z2, z3, z4⟩ := ih f (p + 1) N8 (by omega) (by omega) x8 (by rw [s8]; show N.2.1 + 1 ≤ _; omega) (by rw [s8]; show N.2.2.1 + 7 ≤ _; omega)
    refine ⟨Ne, ?_, z2, z3, z4⟩
    obtain ⟨-, he1, ho1⟩ := RU x1
    obtain ⟨-, he2, ho2⟩ := RU x2
    obtain ⟨-, he3, ho3⟩ := RU x3
    obtain ⟨-, he4, ho4⟩ := RU x4
    obtain ⟨-, he5, ho5⟩ := RU x5
    obtain ⟨-, he6, ho6⟩ := RU x6
    obtain ⟨-, he7, ho7⟩ := RU x7
    obtain ⟨hD8, he8, ho8⟩ := RU x8
    have J600 : ∀ v, v = (if oC F p 3 = 0 then (0 : Int32) else Int32.ofNat (sumU (ahU F p s) (m - pp) pp)) → tL_state_J600_414 (tL_state_L414 M.2.1 M.2.2.1 x b f) M.2.1 M.2.2.1 x b (Int32.ofNat p) v N8 = some (.inr (), Ne) := fun v hv => by
      rw [tL_state_J600_414, if_pos ⟨k1, k2'⟩, if_pos (T_x hD8.1.1), w3, Option.bind_some]
      simp only [Sum.elim_inl]
      rw [if_pos hv.symm, tL_state_J612_414, n_succ]
      exact z1
    have J481 : tL_state_J481_414 (tL_state_L414 M.2.1 M.2.2.1 x b f) M.2.1 M.2.2.1 x b (Int32.ofNat p) q t t 3 y2 N4 = some (.inr (), Ne) := by
      rw [tL_state_J481_414, show sA N4 t 101 3 (.int y2) = some N5 from k2, Option.bind_some, he5.vI ho5 hc g1, Option.bind_some, show sA N5 t 101 4 (.int (gt E (44 + p) 3)) = some N6 from l2', Option.bind_some, he6.vI ho6 hc g1, Option.bind_some, show sA N6 t 101 5 (.int (gt E (44 + p) 4)) = some N7 from o2, Option.bind_some, he7.vI ho7 hc g1, Option.bind_some, show sA N7 t 101 6 (.int (gt E (44 + p) 5)) = some N8 from q2, Option.bind_some]
      rw [show tL_state_L509 M.2.1 M.2.2.1 x b (Int32.ofNat p) q t vF 0 N8 = _ from w1, Option.bind_some]
      simp only [Sum.elim_inr]
      rw [he8.vI ho8 hc g1, Option.bind_some, ep, w2, Option.bind_some]
      exact J600 _ rfl
    have J466 : tL_state_J466_414 (tL_state_L414 M.2.1 M.2.2.1 x b f) M.2.1 M.2.2.1 x b (Int32.ofNat p) q t t 2 y1 N3 = some (.inr (), Ne) := by
      rw [tL_state_J466_414, show sA N3 t 101 2 (.int y1) = some N4 from f2, Option.bind_some, he4.vI ho4 hc g1, Option.bind_some]
      by_cases o : gt E (44 + p) 7 = 0
      · rw [if_pos o]; rw [if_pos o] at hy2; rw [← hy2]; exact J481
      · rw [if_neg o]; rw [if_neg o] at hy2; rw [← hy2]; exact J481
    rw [a1, Option.bind_some, he1.vI ho1 hc g1, Option.bind_some, ← ht, show sA N1 t 101 0 (.int (gt E (44 + p) 1)) = some N2 from b2, Option.bind_some, he2.vI ho2 hc g1, Option.bind_some, show sA N2 t 101 1 (.int (gt E (44 + p) 2)) = some N3 from d2, Option.bind_some, he3.vI ho3 hc g1, Option.bind_some]
    by_cases o : gt E (44 + p) 6 = 0
    · rw [if_pos o]; rw [if_pos o] at hy1; rw [← hy1]; exact J466
    · rw [if_neg o]; rw [if_neg o] at hy1; rw [← hy1]; exact J466
end
