section
variable {KK : Nat → vOb} {M N : vMe} {x r b y u hz n clk : Nat} {E : Nat → Nat → Value}
theorem lgc_rf (A : Int64) : lg_cmp A A = 0 := by rw [lg_cmp_eq]
theorem bits_both {a d k j : Nat} {G F C : Nat → Nat → Value} (hD : simD M x r G F a d C u hz n k) (hF : F 1 = eR E) (he : hE M b E) (ho : eOk M b E) (hj : j < n) : ∃ B, tX7_bits (a + (4 + 8 * j)) M = some B ∧ tX10_bits (b + (2 + 8 * j)) M = some B := by
  have hP := D_p hD
  have hj5 : j < 5 := by have := hP.1.2.2.1.2; omega
  obtain ⟨B, m, b1, b2, b3, b4, b5⟩ := c_bitsS hD hj
  have e1 := e_bits (M := M) (b := b) (s := j) (m := m) ho hj5 ((R_0 hF hj5).symm.trans b4) b5
  rw [he.eq ho] at e1
  have eB : bvE E j m = B := bt_ext (fun y hy => Bool.eq_iff_iff.mpr ((bvE_bt (E := E) hF hj5 (hP.2.2.2.2.2 j hj).2 hP.1.1.2.2 b4 b5 hy).trans (b2 y hy).symm))
  rw [eB] at e1
  exact ⟨B, b1, e1⟩
/-- WHAT IS ASKED is the same -/
theorem asks_W (w : WW KK M x r b y u hz n clk E) (hn : 1 ≤ n) : ∃ N, tL_asks x b y M = some (1, N) ∧ WW KK N x r b y u hz n clk E ∧ N.2 = M.2 := by
  obtain ⟨e0, o0, g0, -, -, -, hn5⟩ := WW_h w
  obtain ⟨j, M2, hj, d2, b2, w2⟩ := draw_W w hn (by omega)
  obtain ⟨o, M4, hO, d4, b4, w4⟩ := draw_W w2 hn (by omega)
  obtain ⟨e2, o2, -⟩ := WW_h w2
  have hj5 : j < 5 := by omega
  have i0 : ∀ {N : vMe}, N.2 = M.2 → N.2.1 + 0 ≤ M.2.1 + 1 ∧ N.2.2.1 + 0 ≤ M.2.2.1 + 6 := fun e => by rw [e]; exact ⟨by omega, by omega⟩
  have i1 : ∀ {N : vMe}, N.2 = M.2 → N.2.1 + 1 ≤ M.2.1 + 1 ∧ N.2.2.1 + 6 ≤ M.2.2.1 + 6 := fun e => by rw [e]; exact ⟨by omega, by omega⟩
  have c4 : M4.2 = M.2 := b4.trans b2
  have w4' := w4
  obtain ⟨G0, F0, a0, q0, C0, k0, p1, p2, p3, p4, p5, -⟩ := w4'
  obtain ⟨NE, hL0⟩ := p3.2.2.2 j hj
  have hc : clk < 2000 := p3.2.1
  have hNE : NE < 2000 := by have := hL0.2.1; omega
  obtain ⟨hz1, hz60⟩ := (D_p p1).1.2.1.2
  obtain ⟨R0, R1, R2, R3, R4, R5⟩ := R_h p2
  have ehz : gt E 0 2 = Int32.ofNat hz := R2.symm.trans (D_p p1).1.2.1.1
  have eck : gt E 0 3 = Int32.ofNat clk := p3.1
  have hK60 : eK E j ≤ 60 := by unfold eK; rw [eH_of ehz hz60]; split <;> omega
  obtain ⟨⟨f0, hf0, ef0⟩, -⟩ := first_T p2 hj5 hL0 hc hNE
  have ef := e_first (M := M4) (b := b) (hz := hz) p5 hj5 p2 hL0.1 (by omega) hz60 ehz
  rw [p4.eq p5, ef0] at ef
  have earg : Int32.ofNat clk - Int32.ofNat f0 + 1 = Int32.ofNat (clk - f0 + 1) := by rw [n_sub hf0, n_succ]
  obtain ⟨d1', M10, hd1, d10, b10, w10⟩ := draw_W w4 (show 1 ≤ clk - f0 + 1 by omega) (by omega)
  obtain ⟨d2', M12, hd2, d12, b12, w12⟩ := draw_W w10 (show 1 ≤ clk - f0 + 1 by omega) (by omega)
  obtain ⟨e10, o10, -⟩ := WW_h w10
  have c10 : M10.2 = M.2 := b10.trans c4
  have c12 : M12.2 = M.2 := b12.trans c10
  have w12' := w12
  obtain ⟨G, F, a, d, C, k, v1, v2, v3, v4, v5, -⟩ := w12'
  have hP := D_p v1
  obtain ⟨NE', hL⟩ := v3.2.2.2 j hj
  have : NE' = NE := (n_eq (by have := hL.2.1; omega) (by omega)).mp (hL.1.symm.trans hL0.1)
  subst this
  obtain ⟨S0, S1, S2, S3, S4, S5⟩ := R_h v2
  have efF : oS F j 2 = Int32.ofNat f0 := by rw [R_S v2 hj5 (by omega), ← R_S p2 hj5 (by omega)]; exact ef0
  have ecF : gt F 1 3 = Int32.ofNat clk := S3.trans eck
  have m3 : oS F j 3 = Int32.ofNat (eK E j) := R_3 v2 hj5
  have ok : ∀ d, d < clk - f0 + 1 → ¬ (Int32.ofNat (f0 + d) < oS F j 2 ∨ gt F 1 3 < Int32.ofNat (f0 + d)) := fun d hd g => by
    rw [efF, ecF] at g
    rcases g with g | g
    · have := (n_lt (by omega) (by omega)).mp g; omega
    · have := (n_lt (by omega) (by omega)).mp g; omega
  have le : ∀ d, d < clk - f0 + 1 → oS F j 2 ≤ Int32.ofNat (f0 + d) := fun d hd => by
    rw [efF]; exact (n_le (by omega) (by omega)).mpr (by omega)
  obtain ⟨A, hA⟩ : ∃ A, A = cAt (evs F j) (Int32.ofNat (f0 + d1')) (eK E j) 0 (two (oS F j 5) (oS F j 4)) := ⟨_, rfl⟩
  obtain ⟨B, hB⟩ : ∃ B, B = cAt (evs F j) (Int32.ofNat (f0 + d2')) (eK E j) 0 (two (oS F j 5) (oS F j 4)) := ⟨_, rfl⟩
  have aA := at_both v4 v5 v2 hj5 hL hc hNE hK60 (le d1' hd1)
  have aB := at_both v4 v5 v2 hj5 hL hc hNE hK60 (le d2' hd2)
  rw [← hA] at aA
  rw [← hB] at aB
  have qA := Q_at v1 hj m3 hK60 (ok d1' hd1)
  rw [← hA] at qA
  have qD := fun came => Q_differs (came := came) v1 hj m3 hK60 (ok d1' hd1) (ok d2' hd2) hA.symm hB.symm
  -- the fullest
  have ck := e_kept (M := M12) (b := b) (hz := hz) hj5 hL.1 (by omega) hz60 ehz
  rw [v4.eq v5] at ck
  have eN1 : eN E j = NE' := eN_of hL.1 (by omega)
  have hle : eK E j ≤ NE' := by unfold eK; rw [eN1]; split <;> omega
  obtain ⟨-, ff1, ff2⟩ := first_T v2 hj5 hL hc hNE
  have af := at_k (st := oS F j 2) v4 v5 hj5 hL hc hNE (i := NE' - eK E j) (by omega) ff2 (fun g => by rw [ff1 g]; exact Int32.le_refl _)
  have cf := a_full_L (n0 := M.2.1) (s0 := M.2.2.1) (x0 := x) (x2 := y) (x3 := Int32.ofNat j) (x4 := Int32.ofNat o) v4 v5 v2 hj5 hL hc hNE hK60 (i0 c12).1 (i0 c12).2 (eK E j) vF 0 (oS F j 2) _ (by omega) (by unfold vF; omega) af
  have qF := Q_fullest v1 hj m3 hK60
  rw [base_T v2 hj5 hL hNE] at qF
  rw [Nat.add_zero] at cf
  rw [efF] at cf qF
  -- since
  obtain ⟨N, t1, t2, t3⟩ := a_since3_L (M := M) (n0 := M.2.1) (s0 := M.2.2.1) (x4 := Int32.ofNat o) hj rfl rfl 3 vF 0 M12 (by omega) (by unfold vF; omega) w12 c12
  have t2' := t2
  obtain ⟨G', F', a', q', C', k', u1, u2, u3, u4, u5, -⟩ := t2'
  obtain ⟨B1, bb1, bb2⟩ := bits_both u1 u2 u4 u5 hj
  obtain ⟨B2, bb3, bb4⟩ := bits_both u1 u2 u4 u5 hO
  have qc := Q_common u1 hj hO bb1 bb3
  have qw := Q_isWithin u1 hj hO bb1 bb3
  have ql := Q_likeness u1 hj hO bb1 bb3
  have hle2 := pcI_le (B1 &&& B2)
  have hlo := pcI_le (B1 ||| B2)
  have J443 : ∀ v : Int32, tL_asks_J443 M.2.1 M.2.2.1 x (Int32.ofNat j) (Int32.ofNat o) (Int32.ofNat (pcI (B1 &&& B2))) (Int32.ofNat (pcI (B1 ||| B2))) v v N = some (1, N) := fun v => by
    have i3 : N.2.1 ≤ M.2.1 + 1 ∧ N.2.2.1 ≤ M.2.2.1 + 6 := by rw [t3]; exact ⟨by omega, by omega⟩
    rw [tL_asks_J443, if_pos rfl, if_pos (i1 t3), if_pos (T_x u1.1.1), ql, Option.bind_some]
    simp only [Sum.elim_inl]
    by_cases q : pcI (B1 ||| B2) = 0
    · rw [if_pos q, if_pos (n_z0 q), tL_asks_J469, if_pos like_1, if_pos i3]
    · rw [if_neg q, if_neg (n_z (Nat.lt_of_le_of_lt hlo (by decide)) q), if_pos (like_ok _ (Nat.lt_succ_of_le hle2) _ (Nat.lt_succ_of_le hlo) (Nat.pos_of_ne_zero q)), tL_asks_J469, if_pos (like_eq _ (Nat.lt_succ_of_le hle2) _ (Nat.lt_succ_of_le hlo) (Nat.pos_of_ne_zero q)), if_pos i3]
  refine ⟨N, ?_, t2, t3⟩
  rw [tL_asks, e0.I0 o0, Option.bind_some, if_pos (i0 rfl), g0, d2, Option.bind_some]
  dsimp only
  rw [e2.I0 o2, Option.bind_some, g0, if_pos (i0 b2), d4, Option.bind_some]
  dsimp only
  rw [p4.A6 p5, Option.bind_some, p4.box p5 hj5, Option.bind_some, p4.I0 p5, Option.bind_some, ehz, if_pos (i0 c4), if_pos (p4.tB p5 hj5), ef, Option.bind_some, p4.I0 p5, Option.bind_some, eck, if_pos (i0 c4), earg, d10, Option.bind_some]
  dsimp only
  rw [e10.I0 o10, Option.bind_some, eck, if_pos (i0 c10), earg, d12, Option.bind_some]
  dsimp only
  rw [n_add, n_add, if_pos (i1 c12), if_pos (T_x v1.1.1), qA, Option.bind_some]
  simp only [Sum.elim_inl]
  rw [if_pos (i0 c12), if_pos (v4.tB v5 hj5), aA, Option.bind_some, if_pos (lgc_rf A), if_pos (i1 c12), if_pos (T_x v1.1.1), qD, Option.bind_some]
  simp only [Sum.elim_inl]
  rw [if_neg n10, if_pos (i0 c12), if_pos (v4.tB v5 hj5), aB, Option.bind_some, if_pos (i0 c12), if_pos (v4.tB v5 hj5), aA, Option.bind_some, if_pos (i0 c12), bitCount_eq, Option.bind_some, if_pos rfl, if_pos (i1 c12), if_pos (T_x v1.1.1), qD, Option.bind_some]
  simp only [Sum.elim_inl]
  rw [if_pos trivial, if_pos (i0 c12), if_pos (v4.tB v5 hj5), aA, Option.bind_some, if_pos (i0 c12), if_pos (v4.tB v5 hj5), aB, Option.bind_some, if_pos (i0 c12), bitCount_eq, Option.bind_some, if_pos rfl]
  rw [v4.bI v5 hj5, Option.bind_some, hL.1, v4.I0 v5, Option.bind_some, ehz, if_pos (i0 c12), if_pos (v4.tB v5 hj5), ck, Option.bind_some, n_sub hle, cf, Option.bind_some]
  dsimp only
  rw [if_pos (i1 c12), if_pos (T_x v1.1.1), qF, Option.bind_some]
  simp only [Sum.elim_inl]
  rw [if_pos trivial, show tL_asks_L255 M.2.1 M.2.2.1 x b y (Int32.ofNat j) (Int32.ofNat o) (b + (2 + 8 * j)) vF 0 M12 = _ from t1, Option.bind_some]
  simp only [Sum.elim_inr]
  rw [if_pos (i0 t3), if_pos (u4.tB u5 hj5), bb2, Option.bind_some, u4.A6 u5, Option.bind_some, u4.box u5 (by omega), Option.bind_some, if_pos (i0 t3), if_pos (u4.tB u5 (by omega)), bb4, Option.bind_some, if_pos (i0 t3), bitCount_eq, Option.bind_some, if_pos (i0 t3), bitCount_eq, Option.bind_some, if_pos (i1 t3), if_pos (T_x u1.1.1), qc, Option.bind_some]
  simp only [Sum.elim_inl]
  rw [if_pos trivial, if_pos (i1 t3), if_pos (T_x u1.1.1), qw, Option.bind_some]
  simp only [Sum.elim_inl]
  by_cases q : pcI (B1 &&& B2) = pcI B1
  · rw [if_pos (within_P.mpr q), if_pos q]
    exact J443 1
  · rw [if_neg (fun g => q (within_P.mp g)), if_neg q]
    exact J443 0
end
