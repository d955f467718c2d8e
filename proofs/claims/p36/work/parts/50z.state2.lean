section
variable {M N : vMe} {x r a d b y u hz n k clk : Nat} {G F C E : Nat → Nat → Value}
theorem s_sets_L (hR : RD M x r b u hz n k a d G F C E) (hA : ∀ q, eA b E q → q < M.2.1) (hF : F 1 = eR E) (hK : okE b E F n clk) (hb : M.2.2.2 ≤ M.2.1) : ∀ (i f p : Nat) (N : vMe), p + i = n → i < f → ext M N → N.2.1 ≤ M.2.1 + p → N.2.2.1 ≤ M.2.2.1 + 5 * p →
    ∃ N2, tL_state_L2 M.2.1 M.2.2.1 x b f (Int32.ofNat p) N = some (.inr (), N2) ∧ ext M N2 ∧ N2.2.1 ≤ M.2.1 + n ∧ N2.2.2.1 ≤ M.2.2.1 + 5 * n := by
  have hP := D_p hR.1
  have hn5 := hP.1.2.2.1.2
  obtain ⟨hz1, hz60⟩ := hP.1.2.1.2
  obtain ⟨R0, R1, R2, R3, R4, R5⟩ := R_h hF
  have e0 : gt E 0 0 = Int32.ofNat n := R0.symm.trans hP.1.2.2.1.1
  have e2 : gt E 0 2 = Int32.ofNat hz := R2.symm.trans hP.1.2.1.1
  have RU : ∀ {N}, ext M N → RD N x r b u hz n k a d G F C E := fun e => hR.up hA e
  intro i
  induction i with
  | zero =>
    intro f p N hp hf e h1 h2
    obtain ⟨f, rfl⟩ : ∃ g, f = g + 1 := ⟨f - 1, by omega⟩
    obtain ⟨hD, he, ho⟩ := RU e
    refine ⟨N, ?_, e, by omega, by omega⟩
    rw [tL_state_L2, he.I0 ho, Option.bind_some, e0, if_pos ((n_le (by omega) (by omega)).mpr (by omega))]
  | succ i ih =>
    intro f p N hp hf e h1 h2
    obtain ⟨f, rfl⟩ : ∃ g, f = g + 1 := ⟨f - 1, by omega⟩
    have hj : p < n := by omega
    have hj5 : p < 5 := by omega
    have hRN := RU e
    obtain ⟨hD, he, ho⟩ := hRN
    obtain ⟨NE, hL⟩ := hK.2.2.2 p hj
    have hNE : NE < 2000 := by have := hL.2.1; have := hK.2.1; omega
    obtain ⟨sS, sO⟩ := hP.2.2.2.2.2 p hj
    have c1 := s_open_L (n0 := M.2.1) (s0 := M.2.2.1) (x2 := p) (RU e) hF hK hj 6 vF 0 0 (by omega) (by unfold vF; omega)
    have c2 := e_kept (M := N) (b := b) (hz := hz) hj5 hL.1 (by omega) hz60 e2
    rw [he.eq ho] at c2
    obtain ⟨N1, a1, a2, a3, a4⟩ := a_nw (N := N) (len := 5) (n0 := M.2.1) (s0 := M.2.2.1) (mc := 16) (ms := 100) (by omega) (by omega) (by omega)
    obtain ⟨t, ht⟩ : ∃ t, t = N.2.1 := ⟨_, rfl⟩
    rw [← ht] at a2
    have htM : M.2.1 ≤ t := by have := e.2.1; omega
    have x1 : ext M N1 := e.tr a3
    have b1 : N1.2.2.2 ≤ t := by rw [x1.2.2]; omega
    obtain ⟨N2, b2, b3, b4, b5⟩ := a_sA (i := 0) (v := .int (gt E (2 + 8 * p) 0)) a2 (by omega) (by omega) b1
    have x2 : ext M N2 := ext_wr x1 htM b4 b5
    obtain ⟨N3, d2, d3, d4, d5⟩ := a_sA (i := 1) (v := .int (gt E (2 + 8 * p) 1)) b3 (by omega) (by omega) (by rw [b4]; exact b1)
    have x3 : ext M N3 := ext_wr x2 htM d4 d5
    obtain ⟨N4, f2, f3, f4, f5⟩ := a_sA (i := 2) (v := .int (oS F p 2)) d3 (by omega) (by omega) (by rw [d4, b4]; exact b1)
    have x4 : ext M N4 := ext_wr x3 htM f4 f5
    obtain ⟨N5, g2, g3, g4, g5⟩ := a_sA (i := 3) (v := .int (Int32.ofNat (eK E p))) f3 (by omega) (by omega) (by rw [f4, d4, b4]; exact b1)
    have x5 : ext M N5 := ext_wr x4 htM g4 g5
    obtain ⟨N6, h2', h3, h4, h5⟩ := a_sA (i := 4) (v := .int (Int32.ofNat (0 + sumU (onU F p) 6 0))) g3 (by omega) (by omega) (by rw [g4, f4, d4, b4]; exact b1)
    have x6 : ext M N6 := ext_wr x5 htM h4 h5
    have s6 : N6.2 = (N.2.1 + 1, N.2.2.1 + 5, N.2.2.2) := by rw [h4, g4, f4, d4, b4, a4]
    have s3 : N3.2 = (N.2.1 + 1, N.2.2.1 + 5, N.2.2.2) := by rw [d4, b4, a4]
    obtain ⟨-, he1, ho1⟩ := RU x1
    obtain ⟨-, he2, ho2⟩ := RU x2
    obtain ⟨-, he3, ho3⟩ := RU x3
    have c3 := e_first (M := N3) (b := b) (hz := hz) ho3 hj5 hF hL.1 (by omega) hz60 e2
    rw [he3.eq ho3] at c3
    have k1 : N6.2.1 + 1 ≤ M.2.1 + 16 := by rw [s6]; show N.2.1 + 1 + 1 ≤ _; omega
    have k2 : N6.2.2.1 + 6 ≤ M.2.2.1 + 100 := by rw [s6]; show N.2.2.1 + 5 + 6 ≤ _; omega
    have w1 := s_set_L (n0 := M.2.1) (s0 := M.2.2.1) (x5 := eK E p) (RU x6) hj h3 (fun l hl => by
      rcases (show l = 0 ∨ l = 1 ∨ l = 2 ∨ l = 3 ∨ l = 4 by omega) with rfl | rfl | rfl | rfl | rfl
      · simp only [updV]; simp; exact (R_0 hF hj5).symm
      · simp only [updV]; simp; exact (R_1 hF hj5).symm
      · simp only [updV]; simp; rfl
      · simp only [updV]; simp; exact (R_3 hF hj5).symm
      · simp only [updV]; simp; rfl) k1 k2 5 vF 0 (by omega) (by unfold vF; omega)
    have w2 := s_cell_L (n0 := M.2.1) (s0 := M.2.2.1) (x5 := eK E p) (RU x6) hF hj k1 k2 u vF 0 (by omega) (by have := hP.1.1.2.2; unfold vF; omega)
    have hK60 : eK E p ≤ 60 := by unfold eK; rw [eH_of e2 hz60]; split <;> omega
    have w3 := s_event_L (n0 := M.2.1) (s0 := M.2.2.1) (RU x6) hF hj (R_3 hF hj5) hK60 hL.1 hNE rfl k1 k2 (eK E p + 1) vF 0 (by omega) (by unfold vF; omega)
    obtain ⟨Ne, r1, r2, r3, r4⟩ := ih f (p + 1) N6 (by omega) (by omega) x6 (by rw [s6]; show N.2.1 + 1 ≤ _; omega) (by rw [s6]; show N.2.2.1 + 5 ≤ _; omega)
    refine ⟨Ne, ?_, r2, r3, r4⟩
    rw [tL_state_L2, he.I0 ho, Option.bind_some, e0, if_neg (fun g => by have := (n_le (by omega) (by omega)).mp g; omega), he.A6 ho, Option.bind_some, he.box ho hj5, Option.bind_some]
    rw [show tL_state_L23 M.2.1 M.2.2.1 x b (Int32.ofNat p) (b + (2 + 8 * p)) vF 0 0 N = _ from c1, Option.bind_some, he.I0 ho, Option.bind_some, e2, if_pos ⟨by show N.2.1 + 0 ≤ _; omega, by show N.2.2.1 + 0 ≤ _; omega⟩, if_pos (he.tB ho hj5), c2, Option.bind_some]
    rw [show nwO (Int32.ofNat (0 + sumU (onU F p) 6 0), N).2 101 5 5 (fun _ => .int 0) M.2.1 M.2.2.1 16 100 = some N1 from a1, Option.bind_some, he1.bI ho1 hj5, Option.bind_some]
    show ((sA N1 N.2.1 101 0 (.int (gt E (2 + 8 * p) 0))).bind _) = _
    rw [← ht, show sA N1 t 101 0 (.int (gt E (2 + 8 * p) 0)) = some N2 from b2, Option.bind_some, he2.bI ho2 hj5, Option.bind_some, show sA N2 t 101 1 (.int (gt E (2 + 8 * p) 1)) = some N3 from d2, Option.bind_some, he3.I0 ho3, Option.bind_some, e2, s3, if_pos ⟨by show N.2.1 + 1 + 0 ≤ _; omega, by show N.2.2.1 + 5 + 0 ≤ _; omega⟩, if_pos (he3.tB ho3 hj5), c3, Option.bind_some]
    rw [show sA N3 t 101 2 (.int (oS F p 2)) = some N4 from f2, Option.bind_some, show sA N4 t 101 3 (.int (Int32.ofNat (eK E p))) = some N5 from g2, Option.bind_some]
    rw [show sA N5 t 101 4 (.int (Int32.ofNat (0 + sumU (onU F p) 6 0))) = some N6 from h2', Option.bind_some]
    rw [show tL_state_L136 M.2.1 M.2.2.1 x b (Int32.ofNat p) (b + (2 + 8 * p)) (Int32.ofNat (eK E p)) t vF 0 N6 = _ from w1, Option.bind_some]
    simp only [Sum.elim_inr]
    rw [show tL_state_L168 M.2.1 M.2.2.1 x b (Int32.ofNat p) (b + (2 + 8 * p)) (Int32.ofNat (eK E p)) vF 0 N6 = _ from w2, Option.bind_some]
    simp only [Sum.elim_inr]
    rw [show tL_state_L284 M.2.1 M.2.2.1 x b (Int32.ofNat p) (b + (2 + 8 * p)) (Int32.ofNat (eK E p)) vF 0 N6 = _ from w3, Option.bind_some]
    simp only [Sum.elim_inr]
    rw [n_succ]
    exact r1
end
