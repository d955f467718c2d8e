section
variable {M : vMe} {a b u hz n k s o : Nat}
/-- what a run of the law's own changes may take -/
def gro (M M2 : vMe) (q : Nat) : Prop := M2.2.2.2 = M.2.2.2 ∧ M.2.1 ≤ M2.2.1 ∧ M2.2.1 ≤ M.2.1 + q ∧ M2.2.2.1 ≤ M.2.2.1 + 6 * q ∧ ∀ z, z < M.2.1 → M2.1 z = M.1 z
theorem gro.rf {M : vMe} {q : Nat} : gro M M q := ⟨rfl, Nat.le_refl _, by omega, by omega, fun _ _ => rfl⟩
theorem gro.tr {M M1 M2 : vMe} {p q : Nat} (h : gro M M1 p) (g : gro M1 M2 q) : gro M M2 (p + q) := by
  obtain ⟨h1, h2, h3, h4, h5⟩ := h
  obtain ⟨g1, g2, g3, g4, g5⟩ := g
  exact ⟨g1.trans h1, by omega, by omega, by omega, fun z hz => (g5 z (by omega)).trans (h5 z hz)⟩
theorem gro.up {M M1 : vMe} {p q : Nat} (h : gro M M1 p) (g : p ≤ q) : gro M M1 q := ⟨h.1, h.2.1, by have := h.2.2.1; omega, by have := h.2.2.2.1; omega, h.2.2.2.2⟩
/-- keep's walk, on both sides -/
theorem keep_EL {x0 n0 s0 : Nat} (hs : s < n) (ho : o < n) : ∀ (q f f' : Nat) (C E F : Nat → Nat → Value) (M' : vMe) (v : Int32) (m clk : Nat), cOk M a C → eOk M' b E → simP C F u hz n k → F 1 = eR E → okE b E F n clk → clk + q < 2000 → (∀ z, eA b E z → z < M'.2.1) → M'.2.2.2 ≤ M'.2.1 → oS F s 0 = Int32.ofNat m → m ≤ 64 → q ≤ m → q < f → q < f' → M'.2.1 + q ≤ n0 + 128 → M'.2.2.1 + 6 * q ≤ s0 + 2600 →
    ∃ C2 E2 M2 clk2 w, tX5_keepCommon_L18 a (Int32.ofNat s) (Int32.ofNat o) (a + (4 + 8 * s)) f v (Int32.ofNat q - 1) (cv M a C) = some (w, cv M a C2) ∧ tL_changes_L517 n0 s0 x0 b (Int32.ofNat s) (b + (2 + 8 * s)) (Int32.ofNat o) f' v (Int32.ofNat q - 1) (ew M' b E) = some (w, ew M2 b E2) ∧ gro M' M2 q ∧
      cOk M a C2 ∧ eOk M2 b E2 ∧ kN C C2 ∧ simP C2 (gRow F E2) u hz n k ∧ okE b E2 (gRow F E2) n clk2 ∧ clk ≤ clk2 ∧ clk2 ≤ clk + q ∧ E2 42 = E 42 ∧ (∀ c, c < 6 → ∀ l, l ≠ 4 → C2 (44 + c) l = C (44 + c) l) := by
  intro q
  induction q with
  | zero =>
    intro f f' C E F M' v m clk hC hE h hF hK hclk hfr hbM hm hm64 hq hf hf' hn hsl
    obtain ⟨f, rfl⟩ : ∃ g, f = g + 1 := ⟨f - 1, by omega⟩
    obtain ⟨f', rfl⟩ : ∃ g, f' = g + 1 := ⟨f' - 1, by omega⟩
    have FF := gRow_F hF
    refine ⟨C, E, M', clk, v, ?_, ?_, gro.rf, hC, hE, kN.rf, by rw [FF]; exact h, by rw [FF]; exact hK, Nat.le_refl _, Nat.le_refl _, rfl, fun _ _ _ _ => rfl⟩
    · rw [tX5_keepCommon_L18, if_pos (by decide)]
    · rw [tL_changes_L517, if_pos (by decide)]
  | succ q ih =>
    intro f f' C E F M' v m clk hC hE h hF hK hclk hfr hbM hm hm64 hq hf hf' hn hsl
    obtain ⟨f, rfl⟩ : ∃ g, f = g + 1 := ⟨f - 1, by omega⟩
    obtain ⟨f', rfl⟩ : ∃ g, f' = g + 1 := ⟨f' - 1, by omega⟩
    have hs5 : s < 5 := by have := h.1.2.2.1.2; omega
    have ho5 : o < 5 := by have := h.1.2.2.1.2; omega
    have hu := h.1.1.2.2
    obtain ⟨sS1, sO1⟩ := h.2.2.2.2.2 s hs
    obtain ⟨sS2, sO2⟩ := h.2.2.2.2.2 o ho
    obtain ⟨x1, x2, x3, x4⟩ := numP_at sO1 hu hm hm64 (show q < m by omega)
    obtain ⟨x, hx⟩ : ∃ x, x = numP F s q := ⟨_, rfl⟩
    rw [← hx] at x1 x2 x3 x4
    have em : gt C (4 + 8 * s + (0 + 1)) q = Int32.ofNat x := (sS1.2.2.1 q (by omega)).trans x1
    have eme : gt E (2 + 8 * s + (0 + 1)) q = Int32.ofNat x := (R_m hF hs5 (by omega)).symm.trans x1
    have n0' : ¬ (Int32.ofNat (q + 1) - 1 < 0) := by rw [n_pred (by omega)]; exact n_neg (by omega)
    have hd : Int32.ofNat q + (-1) = Int32.ofNat q - 1 := (Int32.sub_eq_add_neg _ _).symm
    have p1 : Int32.ofNat (q + 1) - 1 = Int32.ofNat q := n_pred (by omega)
    have hr := e_has (y := x) hE ho5 hF sO2 hu (by omega)
    have hc := c_has (y := x) hC ho5 sO2 sS2 hu (by omega)
    have st0 : tL_changes_L517 n0 s0 x0 b (Int32.ofNat s) (b + (2 + 8 * s)) (Int32.ofNat o) (f' + 1) v (Int32.ofNat (q + 1) - 1) (ew M' b E) = ((tX10_has (b + (2 + 8 * o)) (Int32.ofNat x) (ew M' b E)).bind fun z118 => if z118 = 0 then ((tX12_remove b (b + (2 + 8 * s)) (Int32.ofNat x) (ew M' b E)).bind fun z122 => if z122.1 = 0 then tL_changes_L517 n0 s0 x0 b (Int32.ofNat s) (b + (2 + 8 * s)) (Int32.ofNat o) f' v (Int32.ofNat q - 1) z122.2 else tL_changes_L517 n0 s0 x0 b (Int32.ofNat s) (b + (2 + 8 * s)) (Int32.ofNat o) f' (v + 1) (Int32.ofNat q - 1) z122.2) else tL_changes_L517 n0 s0 x0 b (Int32.ofNat s) (b + (2 + 8 * s)) (Int32.ofNat o) f' v (Int32.ofNat q - 1) (ew M' b E)) := by
      have eA3 : gA (ew M' b E) (b + (2 + 8 * s)) 12 3 = some (b + (2 + 8 * s + (0 + 1))) := e_bA (j := 0) hE hs5 (by omega)
      have eM : aI (ew M' b E) (b + (2 + 8 * s + (0 + 1))) 101 (Int32.ofNat q) = some (Int32.ofNat x) := by rw [e_mI hs5 (by omega) (by omega), eme]
      have k1 : M'.2.1 + 0 ≤ n0 + 128 ∧ M'.2.2.1 + 0 ≤ s0 + 2600 := ⟨by omega, by omega⟩
      have k2 : M'.2.1 + 1 ≤ n0 + 128 ∧ M'.2.2.1 + 6 ≤ s0 + 2600 := ⟨by omega, by omega⟩
      rw [tL_changes_L517, if_neg n0']
      simp only [e_A6 hE, e_box hE ho5, eA3, p1, eM, Option.bind_some, ew_2, if_pos k1, if_pos k2, if_pos (e_tB (M := M') (b := b) (E := E) ho5), if_pos (e_t0 (M := M') (b := b) (E := E)), tL_changes_J563_517, hd]
    by_cases g : isM F o x
    · have e1 : tX5_keepCommon_L18 a (Int32.ofNat s) (Int32.ofNat o) (a + (4 + 8 * s)) (f + 1) v (Int32.ofNat (q + 1) - 1) (cv M a C) = tX5_keepCommon_L18 a (Int32.ofNat s) (Int32.ofNat o) (a + (4 + 8 * s)) f v (Int32.ofNat q - 1) (cv M a C) := by
        rw [tX5_keepCommon_L18, if_neg n0', c_rA hC hs5 (by omega), Option.bind_some, p1, c_mI hs5 (by omega) (by omega), Option.bind_some, em, cA0 hC, Option.bind_some, cS hC ho5, Option.bind_some, if_pos (c_tagR ho5), hc.1 g, Option.bind_some, if_neg (by decide), tX5_keepCommon_J57_18, hd]
      rw [e1, st0, hr.1 g, Option.bind_some, if_neg (by decide)]
      obtain ⟨C2, E2, M2, clk2, w, y1, y2, y3, y4, y5, y6, y7, y8, y9, y10, y11⟩ := ih f f' C E F M' v m clk hC hE h hF hK (by omega) hfr hbM hm hm64 (by omega) (by omega) (by omega) (by omega) (by omega)
      exact ⟨C2, E2, M2, clk2, w, y1, y2, y3.up (by omega), y4, y5, y6, y7, y8, y9, by omega, y11⟩
    · obtain ⟨C1, E1, M1, clk1, w0, w1, w2, w3, w4, w5, w6, w7, w8, w9, w10, w11, w12, w13, -, -, -⟩ := remove_P (a := a) (M := M) (M' := M') h hF hK (by omega) hs x2 hC hE hfr hbM
      obtain ⟨v1, v2⟩ := w13 x3
      subst v1
      have e1 : tX5_keepCommon_L18 a (Int32.ofNat s) (Int32.ofNat o) (a + (4 + 8 * s)) (f + 1) v (Int32.ofNat (q + 1) - 1) (cv M a C) = tX5_keepCommon_L18 a (Int32.ofNat s) (Int32.ofNat o) (a + (4 + 8 * s)) f (v + 1) (Int32.ofNat q - 1) (cv M a C1) := by
        rw [tX5_keepCommon_L18, if_neg n0', c_rA hC hs5 (by omega), Option.bind_some, p1, c_mI hs5 (by omega) (by omega), Option.bind_some, em, cA0 hC, Option.bind_some, cS hC ho5, Option.bind_some, if_pos (c_tagR ho5), hc.2 g, Option.bind_some, if_pos rfl, if_pos c_tag0, w1, Option.bind_some, tX5_keepCommon_J57_18, hd]
      rw [e1, st0, hr.2 g, Option.bind_some, if_pos rfl, w2, Option.bind_some, if_neg n10]
      obtain ⟨z1, z2⟩ := v2 m hm hm64
      have ge : ∀ z, eA b E1 z ↔ eA b E z := fun z => by unfold eA; rw [w11]
      obtain ⟨g1, g2, g3, g4, g5⟩ := w3
      obtain ⟨C2, E2, M2, clk2, w, y1, y2, y3, y4, y5, y6, y7, y8, y9, y10, y11, y12⟩ := ih f f' C1 E1 (gRow F E1) M1 (v + 1) (m - 1) clk1 w4 w5 w7 gRow_1 w8 (by omega) (fun z hz => by have := hfr z ((ge z).mp hz); omega) (by omega) z2 (by omega) (by omega) (by omega) (by omega) (by omega) (by omega)
      rw [gRow_2] at y7 y8
      exact ⟨C2, E2, M2, clk2, w, y1, y2, (gro.tr (p := 1) ⟨g1, g2, g3, by omega, g5⟩ y3).up (by omega), y4, y5, kN.tr w6 y6, y7, y8, by omega, by omega, y11.trans w11, fun c hc l hl => (y12 c hc l hl).trans (w12 c hc l hl)⟩
/-- unite's walk, on both sides; the sets are two -/
theorem unite_EL {x0 n0 s0 had : Nat} {x8 : Int32} {M' : vMe} (hs : s < n) (ho : o < n) (hso : s ≠ o) (hn : M'.2.1 ≤ n0 + 128) (hsl : M'.2.2.1 ≤ s0 + 2600) : ∀ (j f f' p v : Nat) (C E F : Nat → Nat → Value) (mo clk : Nat), cOk M a C → eOk M' b E → simP C F u hz n k → F 1 = eR E → okE b E F n clk → clk + j < 2000 → oS F o 0 = Int32.ofNat mo → mo ≤ 64 → p + j = mo → j < f → j < f' → oS F s 0 = Int32.ofNat (had + v) → had + v ≤ 64 →
    ∃ C2 E2 v2 clk2, tX5_bringAll_L13 a (Int32.ofNat s) (a + (4 + 8 * o)) f (Int32.ofNat v) (Int32.ofNat p) (cv M a C) = some (Int32.ofNat v2, cv M a C2) ∧ tL_changes_L607 n0 s0 x0 b (Int32.ofNat s) (b + (2 + 8 * s)) (Int32.ofNat o) x8 f' (Int32.ofNat p) (ew M' b E) = some ((), ew M' b E2) ∧
      cOk M a C2 ∧ eOk M' b E2 ∧ kN C C2 ∧ simP C2 (gRow F E2) u hz n k ∧ okE b E2 (gRow F E2) n clk2 ∧ clk ≤ clk2 ∧ clk2 ≤ clk + j ∧ E2 42 = E 42 ∧ (∀ c, c < 6 → C2 (44 + c) = C (44 + c)) ∧ oS (gRow F E2) s 0 = Int32.ofNat (had + v2) := by
  intro j
  induction j with
  | zero =>
    intro f f' p v C E F mo clk hC hE h hF hK hclk hm hm64 hp hf hf' hv hv64
    obtain ⟨f, rfl⟩ : ∃ g, f = g + 1 := ⟨f - 1, by omega⟩
    obtain ⟨f', rfl⟩ : ∃ g, f' = g + 1 := ⟨f' - 1, by omega⟩
    have ho5 : o < 5 := by have := h.1.2.2.1.2; omega
    have FF := gRow_F hF
    have em : gt E (2 + 8 * o) 0 = Int32.ofNat mo := (R_0 hF ho5).symm.trans hm
    refine ⟨C, E, v, clk, ?_, ?_, hC, hE, kN.rf, by rw [FF]; exact h, by rw [FF]; exact hK, Nat.le_refl _, Nat.le_refl _, rfl, fun _ _ => rfl, by rw [FF]; exact hv⟩
    · rw [tX5_bringAll_L13, c_rF ho5, Option.bind_some, (h.2.2.2.2.2 o ho).1.1, hm, if_pos ((n_le (by omega) (by omega)).mpr (by omega))]
    · rw [tL_changes_L607, e_A6 hE, Option.bind_some, e_box hE ho5, Option.bind_some, e_bI ho5, Option.bind_some, em, if_pos ((n_le (by omega) (by omega)).mpr (by omega))]
  | succ j ih =>
    intro f f' p v C E F mo clk hC hE h hF hK hclk hm hm64 hp hf hf' hv hv64
    obtain ⟨f, rfl⟩ : ∃ g, f = g + 1 := ⟨f - 1, by omega⟩
    obtain ⟨f', rfl⟩ : ∃ g, f' = g + 1 := ⟨f' - 1, by omega⟩
    have hs5 : s < 5 := by have := h.1.2.2.1.2; omega
    have ho5 : o < 5 := by have := h.1.2.2.1.2; omega
    have hu := h.1.1.2.2
    obtain ⟨sS2, sO2⟩ := h.2.2.2.2.2 o ho
    obtain ⟨x1, x2, -, -⟩ := numP_at sO2 hu hm hm64 (show p < mo by omega)
    obtain ⟨x, hx⟩ : ∃ x, x = numP F o p := ⟨_, rfl⟩
    rw [← hx] at x1 x2
    have em : gt C (4 + 8 * o + (0 + 1)) p = Int32.ofNat x := (sS2.2.2.1 p (by omega)).trans x1
    have eme : gt E (2 + 8 * o + (0 + 1)) p = Int32.ofNat x := (R_m hF ho5 (by omega)).symm.trans x1
    have em0 : gt E (2 + 8 * o) 0 = Int32.ofNat mo := (R_0 hF ho5).symm.trans hm
    obtain ⟨C1, E1, clk1, w, w1, w2, w3, w4, w6, w7, wK, wk1, wk2, w42, wcu, -, w8, w9, w10⟩ := add_P (a := a) (M := M) (M' := M') h hF hK (by omega) hs x2 hC hE
    have e1 : tX5_bringAll_L13 a (Int32.ofNat s) (a + (4 + 8 * o)) (f + 1) (Int32.ofNat v) (Int32.ofNat p) (cv M a C) = if w = 0 then tX5_bringAll_L13 a (Int32.ofNat s) (a + (4 + 8 * o)) f (Int32.ofNat v) (Int32.ofNat (p + 1)) (cv M a C1) else tX5_bringAll_L13 a (Int32.ofNat s) (a + (4 + 8 * o)) f (Int32.ofNat (v + 1)) (Int32.ofNat (p + 1)) (cv M a C1) := by
      rw [tX5_bringAll_L13, c_rF ho5, Option.bind_some, sS2.1, hm, if_neg (fun g => by have := (n_le (by omega) (by omega)).mp g; omega), cA0 hC, Option.bind_some, cS hC hs5, Option.bind_some, c_rA hC ho5 (by omega), Option.bind_some, c_mI ho5 (by omega) (by omega), Option.bind_some, em, if_pos c_tag0, w1, Option.bind_some]
      by_cases q : w = 0
      · rw [if_pos q, if_pos q, tX5_bringAll_J45_13, n_succ]
      · rw [if_neg q, if_neg q, tX5_bringAll_J45_13, n_succ, n_succ]
    have e2 : tL_changes_L607 n0 s0 x0 b (Int32.ofNat s) (b + (2 + 8 * s)) (Int32.ofNat o) x8 (f' + 1) (Int32.ofNat p) (ew M' b E) = tL_changes_L607 n0 s0 x0 b (Int32.ofNat s) (b + (2 + 8 * s)) (Int32.ofNat o) x8 f' (Int32.ofNat (p + 1)) (ew M' b E1) := by
      have eA3 : gA (ew M' b E) (b + (2 + 8 * o)) 12 3 = some (b + (2 + 8 * o + (0 + 1))) := e_bA (j := 0) hE ho5 (by omega)
      have eM : aI (ew M' b E) (b + (2 + 8 * o + (0 + 1))) 101 (Int32.ofNat p) = some (Int32.ofNat x) := by rw [e_mI ho5 (by omega) (by omega), eme]
      have k1 : M'.2.1 + 0 ≤ n0 + 128 ∧ M'.2.2.1 + 0 ≤ s0 + 2600 := ⟨by omega, by omega⟩
      have k3 : ¬ Int32.ofNat mo ≤ Int32.ofNat p := fun g => by have := (n_le (by omega) (by omega)).mp g; omega
      have k4 : ¬ Int32.ofNat o = Int32.ofNat s := fun g => hso ((n_eq (by omega) (by omega)).mp g.symm)
      rw [tL_changes_L607]
      simp only [e_A6 hE, e_box hE ho5, e_bI ho5, em0, if_neg k3, if_neg k4, eA3, eM, Option.bind_some, ew_2, if_pos k1, if_pos (e_t0 (M := M') (b := b) (E := E)), w2, n_succ]
    have hm1 : oS (gRow F E1) o 0 = Int32.ofNat mo := (w10 o ho5 (Ne.symm hso) 0 (by omega)).trans hm
    rw [e1, e2]
    by_cases g : isM F s x
    · obtain ⟨g1, g3⟩ := w8 g
      rw [if_pos g1]
      obtain ⟨C2, E2, v2, clk2, y1, y2, y3, y4, y5, y6, y7, y8, y9, y10, y11, y12⟩ := ih f f' (p + 1) v C1 E1 (gRow F E1) mo clk1 w3 w4 w7 gRow_1 wK (by omega) hm1 hm64 (by omega) (by omega) (by omega) (by rw [g3]; exact hv) hv64
      rw [gRow_2] at y6 y7 y12
      exact ⟨C2, E2, v2, clk2, y1, y2, y3, y4, kN.tr w6 y5, y6, y7, by omega, by omega, y10.trans w42, fun c hc => (y11 c hc).trans (wcu c hc), y12⟩
    · obtain ⟨g1, g2⟩ := w9 g
      have g4 := g2 _ hv hv64
      rw [if_neg (by rw [g1]; decide)]
      have hv65 : had + (v + 1) ≤ 64 := by
        obtain ⟨m', m1, m2⟩ := okS_m (w7.2.2.2.2.2 s hs).2
        have := (n_eq (by omega) (by omega)).mp (g4.symm.trans m2)
        omega
      obtain ⟨C2, E2, v2, clk2, y1, y2, y3, y4, y5, y6, y7, y8, y9, y10, y11, y12⟩ := ih f f' (p + 1) (v + 1) C1 E1 (gRow F E1) mo clk1 w3 w4 w7 gRow_1 wK (by omega) hm1 hm64 (by omega) (by omega) (by omega) (by rw [g4, Nat.add_assoc]) hv65
      rw [gRow_2] at y6 y7 y12
      exact ⟨C2, E2, v2, clk2, y1, y2, y3, y4, kN.tr w6 y5, y6, y7, by omega, by omega, y10.trans w42, fun c hc => (y11 c hc).trans (wcu c hc), y12⟩
/-- keep, on both sides -/
theorem keep_E {x0 n0 s0 clk : Nat} {C E F : Nat → Nat → Value} {M' : vMe} (hs : s < n) (ho : o < n) (hC : cOk M a C) (hE : eOk M' b E) (h : simP C F u hz n k) (hF : F 1 = eR E) (hK : okE b E F n clk) (hclk : clk + 64 < 2000) (hfr : ∀ z, eA b E z → z < M'.2.1) (hbM : M'.2.2.2 ≤ M'.2.1) (hn : M'.2.1 + 64 ≤ n0 + 128) (hsl : M'.2.2.1 + 384 ≤ s0 + 2600) :
    ∃ C2 E2 M2 clk2 w, tX5_keepCommon a (Int32.ofNat s) (Int32.ofNat o) (cv M a C) = some (w, cv M a C2) ∧ tL_changes_L517 n0 s0 x0 b (Int32.ofNat s) (b + (2 + 8 * s)) (Int32.ofNat o) vF 0 (gt E (2 + 8 * s) 0 - 1) (ew M' b E) = some (w, ew M2 b E2) ∧ gro M' M2 64 ∧
      cOk M a C2 ∧ eOk M2 b E2 ∧ kN C C2 ∧ simP C2 (gRow F E2) u hz n k ∧ okE b E2 (gRow F E2) n clk2 ∧ clk ≤ clk2 ∧ clk2 ≤ clk + 64 ∧ E2 42 = E 42 ∧ (∀ c, c < 6 → ∀ l, l ≠ 4 → C2 (44 + c) l = C (44 + c) l) := by
  have hs5 : s < 5 := by have := h.1.2.2.1.2; omega
  obtain ⟨sS1, sO1⟩ := h.2.2.2.2.2 s hs
  obtain ⟨m, m1, m2⟩ := okS_m sO1
  have hu := h.1.1.2.2
  have em : gt E (2 + 8 * s) 0 = Int32.ofNat m := (R_0 hF hs5).symm.trans m2
  obtain ⟨C2, E2, M2, clk2, w, y1, y2, y3, y4, y5, y6, y7, y8, y9, y10, y11⟩ := keep_EL (x0 := x0) (M := M) (a := a) (n0 := n0) (s0 := s0) hs ho m vF vF C E F M' 0 m clk hC hE h hF hK (by omega) hfr hbM m2 (by omega) (Nat.le_refl _) (by unfold vF; omega) (by unfold vF; omega) (by omega) (by omega)
  refine ⟨C2, E2, M2, clk2, w, ?_, by rw [em]; exact y2, y3.up (by omega), y4, y5, y6, y7, y8, y9, by omega, y11⟩
  rw [tX5_keepCommon, cA0 hC, Option.bind_some, cS hC hs5, Option.bind_some, c_rF hs5, Option.bind_some, sS1.1, m2, y1, Option.bind_some]
/-- unite, on both sides -/
theorem unite_E {x0 n0 s0 clk : Nat} {x8 : Int32} {C E F : Nat → Nat → Value} {M' : vMe} (hs : s < n) (ho : o < n) (hC : cOk M a C) (hE : eOk M' b E) (h : simP C F u hz n k) (hF : F 1 = eR E) (hK : okE b E F n clk) (hclk : clk + 64 < 2000) (hn : M'.2.1 ≤ n0 + 128) (hsl : M'.2.2.1 ≤ s0 + 2600) :
    ∃ C2 E2 clk2 v, tX5_bringAll a (Int32.ofNat s) (Int32.ofNat o) (cv M a C) = some (v, cv M a C2) ∧ tL_changes_L607 n0 s0 x0 b (Int32.ofNat s) (b + (2 + 8 * s)) (Int32.ofNat o) x8 vF 0 (ew M' b E) = some ((), ew M' b E2) ∧ v = gt E2 (2 + 8 * s) 0 - gt E (2 + 8 * s) 0 ∧
      cOk M a C2 ∧ eOk M' b E2 ∧ kN C C2 ∧ simP C2 (gRow F E2) u hz n k ∧ okE b E2 (gRow F E2) n clk2 ∧ clk ≤ clk2 ∧ clk2 ≤ clk + 64 ∧ E2 42 = E 42 ∧ (∀ c, c < 6 → C2 (44 + c) = C (44 + c)) := by
  have hs5 : s < 5 := by have := h.1.2.2.1.2; omega
  have ho5 : o < 5 := by have := h.1.2.2.1.2; omega
  obtain ⟨sS1, sO1⟩ := h.2.2.2.2.2 s hs
  obtain ⟨sS2, sO2⟩ := h.2.2.2.2.2 o ho
  obtain ⟨m, m1, m2⟩ := okS_m sO1
  obtain ⟨mo, mo1, mo2⟩ := okS_m sO2
  have hu := h.1.1.2.2
  have em : gt E (2 + 8 * s) 0 = Int32.ofNat m := (R_0 hF hs5).symm.trans m2
  have emo : gt E (2 + 8 * o) 0 = Int32.ofNat mo := (R_0 hF ho5).symm.trans mo2
  by_cases so : s = o
  · subst so
    have FF := gRow_F hF
    refine ⟨C, E, clk, 0, ?_, ?_, by rw [Int32.sub_self], hC, hE, kN.rf, by rw [FF]; exact h, by rw [FF]; exact hK, Nat.le_refl _, by omega, rfl, fun _ _ => rfl⟩
    · rw [tX5_bringAll, cA0 hC, Option.bind_some, cS hC hs5, Option.bind_some, show tX5_bringAll_L13 a (Int32.ofNat s) (a + (4 + 8 * s)) vF 0 0 (cv M a C) = some (0, cv M a C) from unite_S hs hC h m2 (by omega) m vF 0 (by omega) (by unfold vF; omega), Option.bind_some]
    · rw [show vF = 99999 + 1 from rfl, tL_changes_L607, e_A6 hE, Option.bind_some, e_box hE hs5, Option.bind_some, e_bI hs5, Option.bind_some]
      split
      · rfl
      · rw [if_pos rfl]
  · obtain ⟨C2, E2, v2, clk2, y1, y2, y3, y4, y5, y6, y7, y8, y9, y10, y11, y12⟩ := unite_EL (x0 := x0) (M := M) (a := a) (n0 := n0) (s0 := s0) (had := m) (x8 := x8) hs ho so hn hsl mo vF vF 0 0 C E F mo clk hC hE h hF hK (by omega) mo2 (by omega) (by omega) (by unfold vF; omega) (by unfold vF; omega) m2 (by omega)
    refine ⟨C2, E2, clk2, Int32.ofNat v2, ?_, y2, ?_, y3, y4, y5, y6, y7, y8, by omega, y10, y11⟩
    · rw [tX5_bringAll, cA0 hC, Option.bind_some, cS hC ho5, Option.bind_some, show tX5_bringAll_L13 a (Int32.ofNat s) (a + (4 + 8 * o)) vF 0 0 (cv M a C) = _ from y1, Option.bind_some]
    · have g1 : gt E2 (2 + 8 * s) 0 = Int32.ofNat (m + v2) := (R_0 (gRow_1 (F := F)) hs5).symm.trans y12
      rw [g1, em, n_sub (by omega), Nat.add_sub_cancel_left]
end
