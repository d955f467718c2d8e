section
variable {KK : Nat → vOb} {M N : vMe} {x r b y u hz n k clk lo s v : Nat} {E : Nat → Nat → Value}
/-! the law's sets and the class's object side by side, not in relation yet; a text grows above lo -/
def CW (KK : Nat → vOb) (M : vMe) (x r b y : Nat) (E : Nat → Nat → Value) : Prop := ∃ G F a d C u hz n k, simD M x r G F a d C u hz n k ∧ hE M b E ∧ eOk M b E ∧ sepW KK M x r b y G E ∧ bz C ∧ M.2.2.2 ≤ M.2.1
/-- a memory that ends at lo -/
def cut (M : vMe) (lo : Nat) : vMe := (M.1, lo, M.2.2.1, M.2.2.2)
theorem CW_ext (w : CW KK M x r b y E) (e : ext M N) : CW KK N x r b y E := by
  obtain ⟨G, F, a, d, C, u, hz, n, k, w1, w4, w5, ⟨s1, s2, s3, s4, s5, s6, s7⟩, w7, w8⟩ := w
  obtain ⟨h1, h2, h3⟩ := RD.up (M := M) ⟨w1, w4, w5⟩ (fun q hq => (s1 q hq).1) e
  exact ⟨G, F, a, d, C, u, hz, n, k, h1, h2, h3, ⟨fun q hq => ⟨Nat.lt_of_lt_of_le (s1 q hq).1 e.2.1, (s1 q hq).2⟩, by rw [e.1 y s5]; exact s2, by rw [e.1 y s5]; exact s3, by rw [e.2.2]; exact s4, Nat.lt_of_lt_of_le s5 e.2.1, s6, s7.1, s7.2.1, s7.2.2.1, s7.2.2.2.1, fun q hq => (s7.2.2.2.2 q hq).elim (fun k1 k2 => ⟨Nat.lt_of_lt_of_le k1 e.2.1, k2.1, (e.1 q k1).trans k2.2⟩)⟩, w7, by rw [e.2.2]; exact Nat.le_trans w8 e.2.1⟩
theorem CW_cut (w : CW KK (cut M lo) x r b y E) (h : ∀ z, z < lo → N.1 z = M.1 z) (hb : N.2.2.2 = M.2.2.2) : CW KK (cut N lo) x r b y E := CW_ext w ⟨h, Nat.le_refl _, hb⟩
theorem CW_h (w : CW KK (cut M lo) x r b y E) : hE M b E ∧ eOk M b E ∧ (∀ q, eA b E q → q < lo) ∧ y < lo ∧ M.2.2.2 ≤ lo ∧ ¬ eA b E y := by
  obtain ⟨G, F, a, d, C, u, hz, n, k, w1, w4, w5, ⟨s1, s2, s3, s4, s5, s6, s7⟩, w7, w8⟩ := w
  exact ⟨w4, w5, fun q hq => (s1 q hq).1, s5, w8, s7.1⟩
theorem draw_C {m : Nat} (w : CW KK (cut M lo) x r b y E) (h1 : 1 ≤ m) (hm : m < 2147483648) : ∃ j N2, j < m ∧ tL_draw y (Int32.ofNat m) M = some (Int32.ofNat j, N2) ∧ N2.2 = M.2 ∧ (∀ z, z ≠ y → N2.1 z = M.1 z) ∧ CW KK (cut N2 lo) x r b y E := by
  obtain ⟨G, F, a, d, C, u, hz, n, k, w1, w4, w5, ⟨s1, s2, s3, s4, s5, s6, s7⟩, w7, w8⟩ := w
  obtain ⟨o, ho⟩ : ∃ o, o = M.1 y := ⟨_, rfl⟩
  have s2' : o.1 = 101 := by rw [ho]; exact s2
  have s3' : ¬ o.2.1 = 0 := by have : 0 < o.2.1 := by rw [ho]; exact s3
                               omega
  have s4' : M.2.2.2 ≤ y := s4
  obtain ⟨M2, hM2⟩ : ∃ M2, M2 = wr M y 0 (.int (vI (o.2.2 0) * 1664525 + 1013904223)) := ⟨_, rfl⟩
  have e2 : M2.2 = M.2 := by rw [hM2]; rfl
  have eo : ∀ q, q ≠ y → M2.1 q = M.1 q := fun q hq => by rw [hM2]; simp [wr, pt, hq]
  have ey : M2.1 y = (o.1, o.2.1, updV o.2.2 0 (.int (vI (o.2.2 0) * 1664525 + 1013904223))) := by rw [hM2, ho]; simp [wr, pt]
  obtain ⟨t, t1, t2⟩ := sh8 (vI (o.2.2 0) * 1664525 + 1013904223)
  refine ⟨t % m, M2, Nat.mod_lt _ h1, ?_, e2, eo, G, F, a, d, C, u, hz, n, k, ?_, w4.mv (fun q hq => eo q (fun e => s7.1 (e ▸ hq))), ⟨by show M2.2.2.2 ≤ b; rw [e2]; exact w5.1, w5.2⟩, ⟨s1, by show (M2.1 y).1 = 101; rw [ey]; exact s2', by show 0 < (M2.1 y).2.1; rw [ey]; show 0 < o.2.1; omega, by show M2.2.2.2 ≤ y; rw [e2]; exact s4', s5, s6, s7.1, s7.2.1, s7.2.2.1, s7.2.2.2.1, fun q hq => (s7.2.2.2.2 q hq).elim (fun k1 k2 => ⟨k1, k2.1, (eo q (Nat.ne_of_lt (Nat.lt_of_lt_of_le hq s7.2.2.2.1))).trans k2.2⟩)⟩, w7, by show M2.2.2.2 ≤ lo; rw [e2]; exact w8⟩
  · have r1 : aI M y 101 0 = some (vI (o.2.2 0)) := by simp [aI, ← ho, s2', s3']
    have r2 : ∀ v, sA M y 101 0 v = some (wr M y 0 v) := fun v => by simp [sA, ← ho, s2', s3', s4']
    have r3 : aI M2 y 101 0 = some (vI (o.2.2 0) * 1664525 + 1013904223) := by simp [aI, ey, s2', s3', updV, vI]
    have hne : ¬ Int32.ofNat m = 0 := fun e => by have := (n_eq (b := 0) hm (by omega)).mp e; omega
    rw [tL_draw, r1, Option.bind_some, r2, Option.bind_some, ← hM2, r3, Option.bind_some, if_pos hne, t2, n_mod t1 hm]
  · refine simD_law w1 (fun q hq hw => eo q (fun e => ?_)) (Nat.le_refl _) (by show M2.2.2.2 = M.2.2.2; rw [e2])
    rw [e] at hw
    rcases hw with g | g | g
    · exact s6 g
    · exact absurd (s2.symm.trans g) (by decide)
    · exact absurd (s2.symm.trans g) (by decide)
/-- a ghost block that holds what the law's sets hold -/
def GH (b u hz n k clk : Nat) (E : Nat → Nat → Value) : Prop := ∃ (Cg Fg : Nat → Nat → Value) (Mg : vMe) (ag : Nat), cOk Mg ag Cg ∧ simP Cg Fg u hz n k ∧ Fg 1 = eR E ∧ okE b E Fg n clk
def TrA (b s v : Nat) (E E2 : Nat → Nat → Value) : Prop := ∃ M' : vMe, eOk M' b E ∧ tX12_add b (b + (2 + 8 * s)) (Int32.ofNat v) (ew M' b E) = some ((), ew M' b E2)
def TrR (b s v : Nat) (E E2 : Nat → Nat → Value) : Prop := ∃ (M' M2 : vMe) (w : Int32), eOk M' b E ∧ (∀ q, eA b E q → q < M'.2.1) ∧ M'.2.2.2 ≤ M'.2.1 ∧ eOk M2 b E2 ∧ tX12_remove b (b + (2 + 8 * s)) (Int32.ofNat v) (ew M' b E) = some (w, ew M2 b E2)
def mkE (E : Nat → Nat → Value) (k : Nat) : Nat → Nat → Value := pu (pu E 43 k (.int (gt E 0 3))) 0 5 (.int (Int32.ofNat (k + 1)))
theorem tp_add (w : CW KK (cut N lo) x r b y E) (hl : lo ≤ N.2.1) (g : GH b u hz n k clk E) (hclk : clk < 1999) (hs : s < n) (hv : v < u) : ∃ N2 E2 clk2, tX12_add b (b + (2 + 8 * s)) (Int32.ofNat v) N = some ((), N2) ∧ N2.2 = N.2 ∧ (∀ z, ¬ eA b E z → N2.1 z = N.1 z) ∧ CW KK (cut N2 lo) x r b y E2 ∧ GH b u hz n k clk2 E2 ∧ clk ≤ clk2 ∧ clk2 ≤ clk + 1 ∧ E2 42 = E 42 ∧ TrA b s v E E2 := by
  obtain ⟨Cg, Fg, Mg, ag, g1, g2, g3, g4⟩ := g
  obtain ⟨G, F, a, d, C, u0, hz0, n0, k0, w1, w4, w5, w6, w7, w8⟩ := w
  have he : hE N b E := w4
  have ho : eOk N b E := w5
  obtain ⟨C2, E2, clk2, vv, c1, c2, c3, c4, c5, c6, c7, c8, c9, c10, -⟩ := add_P (a := ag) (M := Mg) (M' := N) g2 g3 g4 hclk hs hv g1 ho
  have c2' := c2
  rw [he.eq ho] at c2
  have o2 : eOk (cut N lo) b E2 := c4
  have sp := sep_law w6 (gro.rf (q := 0)) c10 o2
  have s2 := simD_ew w1 w4 w6 (gro.rf (q := 0)) c10 o2
  exact ⟨ew N b E2, E2, clk2, c2, rfl, fun z hz => ew_out c4 (fun q => hz ((eA_eq c10 z).mp q)), ⟨G, F, a, d, C, u0, hz0, n0, k0, s2, hE_ew o2, eOk_ew o2, sp, w7, w8⟩, ⟨C2, _, Mg, ag, c3, c6, gRow_1, c7⟩, c8, c9, c10, N, ho, c2'⟩
theorem tp_rem (w : CW KK (cut N lo) x r b y E) (hl : lo ≤ N.2.1) (g : GH b u hz n k clk E) (hclk : clk < 1999) (hs : s < n) (hv : v < u) : ∃ N2 E2 clk2 z0, tX12_remove b (b + (2 + 8 * s)) (Int32.ofNat v) N = some (z0, N2) ∧ (N2.2.2.2 = N.2.2.2 ∧ N.2.1 ≤ N2.2.1 ∧ N2.2.1 ≤ N.2.1 + 1 ∧ N2.2.2.1 ≤ N.2.2.1 + 6) ∧ (∀ z, z < N.2.1 → ¬ eA b E z → N2.1 z = N.1 z) ∧ CW KK (cut N2 lo) x r b y E2 ∧ GH b u hz n k clk2 E2 ∧ clk ≤ clk2 ∧ clk2 ≤ clk + 1 ∧ E2 42 = E 42 ∧ TrR b s v E E2 := by
  obtain ⟨Cg, Fg, Mg, ag, g1, g2, g3, g4⟩ := g
  obtain ⟨G, F, a, d, C, u0, hz0, n0, k0, w1, w4, w5, w6, w7, w8⟩ := w
  have he : hE N b E := w4
  have ho : eOk N b E := w5
  have hfr : ∀ q, eA b E q → q < N.2.1 := fun q hq => Nat.lt_of_lt_of_le (w6.1 q hq).1 hl
  have hb : N.2.2.2 ≤ N.2.1 := Nat.le_trans w8 hl
  obtain ⟨C2, E2, M2, clk2, vv, c1, c2, ⟨c31, c32, c33, c34, c35⟩, c4, c5, c6, c7, c8, c9, c10, c11, -⟩ := remove_P (a := ag) (M := Mg) (M' := N) g2 g3 g4 hclk hs hv g1 ho hfr hb
  have c2' := c2
  rw [he.eq ho] at c2
  have o2 : eOk (cut M2 lo) b E2 := c5
  have gg : gro (cut N lo) (cut M2 lo) 1 := ⟨c31, Nat.le_refl _, by show lo ≤ lo + 1; omega, by show M2.2.2.1 ≤ N.2.2.1 + 6 * 1; omega, fun z hz => c35 z (Nat.lt_of_lt_of_le hz hl)⟩
  have sp := sep_law w6 gg c11 o2
  have s2 := simD_ew w1 w4 w6 gg c11 o2
  exact ⟨ew M2 b E2, E2, clk2, vv, c2, ⟨c31, c32, c33, c34⟩, fun z hz hn => by rw [ew_out c5 (fun q => hn ((eA_eq c11 z).mp q))]; exact c35 z hz, ⟨G, F, a, d, C, u0, hz0, n0, k0, s2, hE_ew o2, eOk_ew o2, sp, w7, by show M2.2.2.2 ≤ lo; rw [c31]; exact w8⟩, ⟨C2, _, Mg, ag, c4, c7, gRow_1, c8⟩, c9, c10, c11, N, M2, vv, ho, hfr, hb, c5, c2'⟩
end
