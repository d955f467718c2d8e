section
variable {KK : Nat → vOb} {M N : vMe} {x r a d b y u hz n k clk n0 s0 : Nat} {G F C E : Nat → Nat → Value}
theorem WW_ext (w : WW KK M x r b y u hz n clk E) (e : ext M N) : WW KK N x r b y u hz n clk E := by
  obtain ⟨G, F, a, d, C, k, w1, w2, w3, w4, w5, ⟨s1, s2, s3, s4, s5, s6, s7⟩, w7, w8⟩ := w
  obtain ⟨h1, h2, h3⟩ := RD.up (M := M) ⟨w1, w4, w5⟩ (fun q hq => (s1 q hq).1) e
  refine ⟨G, F, a, d, C, k, h1, w2, w3, h2, h3, ⟨fun q hq => ⟨Nat.lt_of_lt_of_le (s1 q hq).1 e.2.1, (s1 q hq).2⟩, by rw [e.1 y s5]; exact s2, by rw [e.1 y s5]; exact s3, by rw [e.2.2]; exact s4, Nat.lt_of_lt_of_le s5 e.2.1, s6, s7.1, s7.2.1, s7.2.2.1, s7.2.2.2.1, fun q hq => (s7.2.2.2.2 q hq).elim (fun k1 k2 => ⟨Nat.lt_of_lt_of_le k1 e.2.1, k2.1, (e.1 q k1).trans k2.2⟩)⟩, w7, by rw [e.2.2]; exact Nat.le_trans w8 e.2.1⟩
theorem s_size_L {t : Nat} {V : Nat → Value} (hR : RD N x r b u hz n k a d G F C E) (ht : N.1 t = (101, 7, V)) (hV : ∀ l, l < 7 → vI (V l) = if l = 5 then Int32.ofNat (sumU (inU F) 6 0) else if l = 6 then gt F 1 5 else gt F 1 l) (h1 : N.2.1 + 1 ≤ n0 + 16) (h2 : N.2.2.1 + 6 ≤ s0 + 100) : ∀ (i f p : Nat), p + i = 7 → i < f → tL_state_L675 n0 s0 x b t f (Int32.ofNat p) N = some (.inr (), N) := by
  intro i
  induction i with
  | zero =>
    intro f p hp hf
    obtain ⟨f, rfl⟩ : ∃ g, f = g + 1 := ⟨f - 1, by omega⟩
    rw [tL_state_L675, if_pos (show (7 : Int32) ≤ Int32.ofNat p from (n_le (a := 7) (by omega) (by omega)).mpr (by omega))]
  | succ i ih =>
    intro f p hp hf
    obtain ⟨f, rfl⟩ : ∃ g, f = g + 1 := ⟨f - 1, by omega⟩
    rw [tL_state_L675, if_neg (show ¬ (7 : Int32) ≤ Int32.ofNat p from fun g => by have := (n_le (a := 7) (by omega) (by omega)).mp g; omega), if_pos ⟨h1, h2⟩, if_pos (T_x hR.1.1.1), Q_size hR.1 (show p < 7 by omega), Option.bind_some]
    simp only [Sum.elim_inl]
    rw [a_aI ht (by omega) (by omega), Option.bind_some, hV p (by omega), if_pos rfl, n_succ]
    exact ih f (p + 1) (by omega) (by omega)
theorem s_mark_L (hR : RD N x r b u hz n k a d G F C E) (hF : F 1 = eR E) (h1 : N.2.1 + 0 ≤ n0 + 16) (h2 : N.2.2.1 + 0 ≤ s0 + 100) : ∀ (i f p : Nat), p + i = 9 → i < f → tL_state_L702 n0 s0 x b f (Int32.ofNat p) N = some (.inr (), N) := by
  have hP := D_p hR.1
  obtain ⟨R0, R1, R2, R3, R4, R5⟩ := R_h hF
  have ek : gt E 0 5 = Int32.ofNat k := R4.symm.trans hP.1.2.2.2.1
  have hk8 := hP.1.2.2.2.2
  obtain ⟨hD, he, ho⟩ := hR
  intro i
  induction i with
  | zero =>
    intro f p hp hf
    obtain ⟨f, rfl⟩ : ∃ g, f = g + 1 := ⟨f - 1, by omega⟩
    rw [tL_state_L702, if_pos (show (9 : Int32) ≤ Int32.ofNat p from (n_le (a := 9) (by omega) (by omega)).mpr (by omega))]
  | succ i ih =>
    intro f p hp hf
    obtain ⟨f, rfl⟩ : ∃ g, f = g + 1 := ⟨f - 1, by omega⟩
    rw [tL_state_L702, if_neg (show ¬ (9 : Int32) ≤ Int32.ofNat p from fun g => by have := (n_le (a := 9) (by omega) (by omega)).mp g; omega), if_pos ⟨h1, h2⟩, if_pos (T_x hD.1.1), Q_marked hD (show p < 9 by omega), Option.bind_some, he.I0 ho, Option.bind_some, ek]
    by_cases q : p < k
    · rw [if_neg (fun g => by have := (n_le (by omega) (by omega)).mp g; omega), he.A8 ho, Option.bind_some, he.kI ho (by omega), Option.bind_some, tL_state_J731_702, if_pos q, if_pos (R_k hF (by omega)), n_succ]
      exact ih f (p + 1) (by omega) (by omega)
    · rw [if_pos ((n_le (by omega) (by omega)).mpr (by omega)), tL_state_J731_702, if_neg q, if_pos rfl, n_succ]
      exact ih f (p + 1) (by omega) (by omega)
/-- THE STATE is the same -/
theorem state_W (w : WW KK M x r b y u hz n clk E) : ∃ N, tL_state x b M = some (1, N) ∧ WW KK N x r b y u hz n clk E ∧ N.2.1 ≤ M.2.1 + 16 ∧ N.2.2.1 ≤ M.2.2.1 + 100 := by
  have w0 := w
  obtain ⟨G, F, a, d, C, k, w1, w2, w3, w4, w5, w6, w7, w8⟩ := w
  have hP := D_p w1
  have hn5 := hP.1.2.2.1.2
  have hA : ∀ q, eA b E q → q < M.2.1 := fun q hq => (w6.1 q hq).1
  have hR : RD M x r b u hz n k a d G F C E := ⟨w1, w4, w5⟩
  have RU : ∀ {N}, ext M N → RD N x r b u hz n k a d G F C E := fun e => hR.up hA e
  obtain ⟨R0, R1, R2, R3, R4, R5⟩ := R_h w2
  obtain ⟨N0, s1, e0, s2, s3⟩ := s_sets_L hR hA w2 w3 w8 n vF 0 M (by omega) (by unfold vF; omega) ext.rf (by omega) (by omega)
  obtain ⟨N, t1, e, t2, t3⟩ := s_cursors_L hR hA w2 w3 w8 6 vF 0 N0 (by omega) (by unfold vF; omega) e0 (by omega) (by omega)
  obtain ⟨N1, a1, a2, a3, a4⟩ := a_nw (N := N) (len := 7) (n0 := M.2.1) (s0 := M.2.2.1) (mc := 16) (ms := 100) (by omega) (by omega) (by omega)
  obtain ⟨t, ht⟩ : ∃ t, t = N.2.1 := ⟨_, rfl⟩
  rw [← ht] at a2
  have htM : M.2.1 ≤ t := by have := e.2.1; omega
  have x1 : ext M N1 := e.tr a3
  have b1 : N1.2.2.2 ≤ t := by rw [x1.2.2]; omega
  obtain ⟨N2, b2, b3, b4, b5⟩ := a_sA (i := 0) (v := .int (gt E 0 0)) a2 (by omega) (by omega) b1
  have x2 : ext M N2 := ext_wr x1 htM b4 b5
  obtain ⟨N3, d2, d3, d4, d5⟩ := a_sA (i := 1) (v := .int (gt E 0 1)) b3 (by omega) (by omega) (by rw [b4]; exact b1)
  have x3 : ext M N3 := ext_wr x2 htM d4 d5
  obtain ⟨N4, f2, f3, f4, f5⟩ := a_sA (i := 2) (v := .int (gt E 0 2)) d3 (by omega) (by omega) (by rw [d4, b4]; exact b1)
  have x4 : ext M N4 := ext_wr x3 htM f4 f5
  obtain ⟨N5, k2, k3, k4, k5⟩ := a_sA (i := 3) (v := .int (gt E 0 3)) f3 (by omega) (by omega) (by rw [f4, d4, b4]; exact b1)
  have x5 : ext M N5 := ext_wr x4 htM k4 k5
  obtain ⟨N6, l2', l3', l4', l5'⟩ := a_sA (i := 4) (v := .int (gt E 0 5)) k3 (by omega) (by omega) (by rw [k4, f4, d4, b4]; exact b1)
  have x6 : ext M N6 := ext_wr x5 htM l4' l5'
  obtain ⟨N7, o2, o3, o4, o5⟩ := a_sA (i := 5) (v := .int (Int32.ofNat (sumU (inU F) 6 0))) l3' (by omega) (by omega) (by rw [l4', k4, f4, d4, b4]; exact b1)
  have x7 : ext M N7 := ext_wr x6 htM o4 o5
  obtain ⟨N8, q2, q3, q4, q5⟩ := a_sA (i := 6) (v := .int (gt E 0 4)) o3 (by omega) (by omega) (by rw [o4, l4', k4, f4, d4, b4]; exact b1)
  have x8 : ext M N8 := ext_wr x7 htM q4 q5
  have s8 : N8.2 = (N.2.1 + 1, N.2.2.1 + 7, N.2.2.2) := by rw [q4, o4, l4', k4, f4, d4, b4, a4]
  have s6 : N6.2 = (N.2.1 + 1, N.2.2.1 + 7, N.2.2.2) := by rw [l4', k4, f4, d4, b4, a4]
  have m1 : N8.2.1 + 1 ≤ M.2.1 + 16 := by rw [s8]; show N.2.1 + 1 + 1 ≤ _; omega
  have m2 : N8.2.2.1 + 6 ≤ M.2.2.1 + 100 := by rw [s8]; show N.2.2.1 + 7 + 6 ≤ _; omega
  obtain ⟨-, he1, ho1⟩ := RU x1
  obtain ⟨-, he2, ho2⟩ := RU x2
  obtain ⟨-, he3, ho3⟩ := RU x3
  obtain ⟨-, he4, ho4⟩ := RU x4
  obtain ⟨-, he5, ho5⟩ := RU x5
  obtain ⟨-, he6, ho6⟩ := RU x6
  obtain ⟨-, he7, ho7⟩ := RU x7
  have ec := e_cursors (M := N6) hP w2 ho6
  rw [he6.eq ho6] at ec
  have v1 := s_size_L (n0 := M.2.1) (s0 := M.2.2.1) (RU x8) q3 (fun l hl => by
    rcases (show l = 0 ∨ l = 1 ∨ l = 2 ∨ l = 3 ∨ l = 4 ∨ l = 5 ∨ l = 6 by omega) with rfl | rfl | rfl | rfl | rfl | rfl | rfl
    · simp only [updV]; simp; exact R0.symm
    · simp only [updV]; simp; exact R1.symm
    · simp only [updV]; simp; exact R2.symm
    · simp only [updV]; simp; exact R3.symm
    · simp only [updV]; simp; exact R4.symm
    · simp only [updV]; simp; rfl
    · simp only [updV]; simp; exact R5.symm) m1 m2 7 vF 0 (by omega) (by unfold vF; omega)
  have v2 := s_mark_L (n0 := M.2.1) (s0 := M.2.2.1) (RU x8) w2 (by omega) (by omega) 9 vF 0 (by omega) (by unfold vF; omega)
  refine ⟨N8, ?_, WW_ext w0 x8, by omega, by omega⟩
  rw [tL_state, show tL_state_L2 M.2.1 M.2.2.1 x b vF 0 M = _ from s1, Option.bind_some]
  simp only [Sum.elim_inr]
  rw [show tL_state_L414 M.2.1 M.2.2.1 x b vF 0 N0 = _ from t1, Option.bind_some]
  simp only [Sum.elim_inr]
  rw [a1, Option.bind_some, he1.I0 ho1, Option.bind_some, ← ht, show sA N1 t 101 0 (.int (gt E 0 0)) = some N2 from b2, Option.bind_some, he2.I0 ho2, Option.bind_some, show sA N2 t 101 1 (.int (gt E 0 1)) = some N3 from d2, Option.bind_some, he3.I0 ho3, Option.bind_some, show sA N3 t 101 2 (.int (gt E 0 2)) = some N4 from f2, Option.bind_some, he4.I0 ho4, Option.bind_some, show sA N4 t 101 3 (.int (gt E 0 3)) = some N5 from k2, Option.bind_some, he5.I0 ho5, Option.bind_some, show sA N5 t 101 4 (.int (gt E 0 5)) = some N6 from l2', Option.bind_some]
  rw [s6, if_pos ⟨by show N.2.1 + 1 + 0 ≤ _; omega, by show N.2.2.1 + 7 + 0 ≤ _; omega⟩, if_pos he6.t, ec, Option.bind_some, show sA N6 t 101 5 (.int (Int32.ofNat (sumU (inU F) 6 0))) = some N7 from o2, Option.bind_some, he7.I0 ho7, Option.bind_some, show sA N7 t 101 6 (.int (gt E 0 4)) = some N8 from q2, Option.bind_some]
  rw [show tL_state_L675 M.2.1 M.2.2.1 x b t vF 0 N8 = _ from v1, Option.bind_some]
  simp only [Sum.elim_inr]
  rw [show tL_state_L702 M.2.1 M.2.2.1 x b vF 0 N8 = _ from v2, Option.bind_some]
  simp only [Sum.elim_inr]
  rw [if_pos ⟨by omega, by omega⟩]
end
