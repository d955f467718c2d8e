section
variable {KK : Nat → vOb} {M : vMe} {x r b y u hz n clk n0 s0 : Nat} {E : Nat → Nat → Value} {Gs : Nat → Nat}
/-- a change that went well -/
def goodC (KK : Nat → vOb) (n0 s0 x r b y u hz n clk : Nat) (t : Option (Int32 × vMe)) : Prop := ∃ M2 E2 clk2, t = some (1, M2) ∧ WW KK M2 x r b y u hz n clk2 E2 ∧ clk2 ≤ clk + 64 ∧ M2.2.1 ≤ n0 + 128 ∧ M2.2.2.1 ≤ s0 + 2600
theorem good_no (w : WW KK M x r b y u hz n clk E) (h1 : M.2.1 ≤ n0) (h2 : M.2.2.1 ≤ s0) : goodC KK n0 s0 x r b y u hz n clk (if M.2.1 ≤ n0 + 128 ∧ M.2.2.1 ≤ s0 + 2600 then some (1, M) else none) := ⟨M, E, clk, if_pos ⟨by omega, by omega⟩, w, by omega, by omega, by omega⟩
theorem hE.t (h : hE M b E) : (M.1 b).1 = 14 := by have := h.1 0 (by omega); rw [Nat.add_zero] at this; rw [this]; rfl
theorem hE.I0 (h : hE M b E) (o : eOk M b E) {k : Nat} : gI M b 14 k = some (gt E 0 k) := by rw [← h.eq o]; exact e_I0
theorem hE.A6 (h : hE M b E) (o : eOk M b E) : gA M b 14 6 = some (b + 1) := by rw [← h.eq o]; exact e_A6 o
theorem hE.A7 (h : hE M b E) (o : eOk M b E) : gA M b 14 7 = some (b + 42) := by rw [← h.eq o]; exact e_A7 o
theorem hE.A8 (h : hE M b E) (o : eOk M b E) : gA M b 14 8 = some (b + 43) := by rw [← h.eq o]; exact e_A8 o
theorem hE.box (h : hE M b E) (o : eOk M b E) {s : Nat} (hs : s < 5) : aA M (b + 1) 109 (Int32.ofNat s) = some (b + (2 + 8 * s)) := by rw [← h.eq o]; exact e_box o hs
theorem hE.bI (h : hE M b E) (o : eOk M b E) {s k : Nat} (hs : s < 5) : gI M (b + (2 + 8 * s)) 12 k = some (gt E (2 + 8 * s) k) := by rw [← h.eq o]; exact e_bI hs
theorem hE.bA (h : hE M b E) (o : eOk M b E) {s j : Nat} (hs : s < 5) (hj : j < 7) : gA M (b + (2 + 8 * s)) 12 (j + 3) = some (b + (2 + 8 * s + (j + 1))) := by rw [← h.eq o]; exact e_bA o hs hj
theorem hE.mI (h : hE M b E) (o : eOk M b E) {s j p : Nat} (hs : s < 5) (hj : j < 3) (hp : p < 64) : aI M (b + (2 + 8 * s + (j + 1))) 101 (Int32.ofNat p) = some (gt E (2 + 8 * s + (j + 1)) p) := by rw [← h.eq o]; exact e_mI hs hj hp
theorem hE.eI (h : hE M b E) (o : eOk M b E) {s j p : Nat} (hs : s < 5) (h3 : 3 ≤ j) (hj : j < 6) (hp : p < 2000) : aI M (b + (2 + 8 * s + (j + 1))) 101 (Int32.ofNat p) = some (gt E (2 + 8 * s + (j + 1)) p) := by rw [← h.eq o]; exact e_eI hs h3 hj hp
theorem hE.tB (h : hE M b E) (o : eOk M b E) {s : Nat} (hs : s < 5) : (M.1 (b + (2 + 8 * s))).1 = 12 := by rw [← h.eq o]; exact e_tB hs
theorem hE.cR (h : hE M b E) (o : eOk M b E) {c : Nat} (hc : c < 6) : aR M (b + 42) 110 (Int32.ofNat c) = some (vR (E 42 c)) := by rw [← h.eq o]; exact e_cR hc
theorem hE.cA (h : hE M b E) (o : eOk M b E) {c q : Nat} (hc : c < 6) (hq : E 42 c = .ref q) : aA M (b + 42) 110 (Int32.ofNat c) = some q := by rw [← h.eq o]; exact e_cA hc hq
theorem hE.vI (h : hE M b E) (o : eOk M b E) {c q k : Nat} (hc : c < 6) (hq : E 42 c = .ref q) : gI M q 13 k = some (gt E (44 + c) k) := by rw [← h.eq o]; exact e_vI o hc hq
theorem hE.vA (h : hE M b E) (o : eOk M b E) {c q k v : Nat} (hc : c < 6) (hq : E 42 c = .ref q) (hv : E (44 + c) k = .ref v) : gA M q 13 k = some v := by rw [← h.eq o]; exact e_vA o hc hq hv
theorem hE.vT (h : hE M b E) {c q : Nat} (hc : c < 6) (hq : E 42 c = .ref q) : (M.1 q).1 = 13 := by rw [h.2 c q hc hq]
theorem hE.kI (h : hE M b E) (o : eOk M b E) {i : Nat} (hi : i < 8) : aI M (b + 43) 101 (Int32.ofNat i) = some (gt E 43 i) := by rw [← h.eq o]; exact e_kI hi
theorem bz_of {C C2 : Nat → Nat → Value} (hz : bz C) (h1 : ∀ d, d < 6 → fits .boolean (.int (gt C (44 + d) 1)) = true → fits .boolean (.int (gt C2 (44 + d) 1)) = true) (h02 : ∀ d, d < 6 → ∀ l, l = 0 ∨ l = 2 → C2 (44 + d) l = C (44 + d) l) : bz C2 := fun c hc k hk => by
  rcases (show k = 0 ∨ k = 1 ∨ k = 2 by omega) with e | e | e
  · have := hz c hc k hk
    unfold gt at this ⊢; rw [h02 c hc k (.inl e)]; exact this
  · subst e; exact h1 c hc (hz c hc 1 (by omega))
  · have := hz c hc k hk
    unfold gt at this ⊢; rw [h02 c hc k (.inr e)]; exact this
theorem bz_4 {C C2 : Nat → Nat → Value} (hz : bz C) (h : ∀ c, c < 6 → ∀ l, l ≠ 4 → C2 (44 + c) l = C (44 + c) l) : bz C2 := fun c hc k hk => by
  have := hz c hc k hk
  unfold gt at this ⊢; rw [h c hc k (by omega)]; exact this
theorem ch_clear {j : Nat} (w : WW KK M x r b y u hz n clk E) (hclk : clk + 64 < 2000) (hj : j < n) (h1 : M.2.1 ≤ n0) (h2 : M.2.2.1 ≤ s0) : goodC KK n0 s0 x r b y u hz n clk
    (if M.2.1 + 50 ≤ n0 + 128 ∧ M.2.2.1 + 2001 ≤ s0 + 2600 then (if (M.1 x).1 = 11 then ((tX9_clear Gs x (Int32.ofNat j) M).bind fun z11 => Sum.elim (fun r12 => if z11.2.2.1 + 0 ≤ n0 + 128 ∧ z11.2.2.2.1 + 0 ≤ s0 + 2600 then (if (z11.2.1 b).1 = 14 then ((tX12_clear b (b + (2 + 8 * j)) z11.2).bind fun z13 => if r12 = z13.1 then (if z13.2.2.1 ≤ n0 + 128 ∧ z13.2.2.2.1 ≤ s0 + 2600 then some (1, z13.2) else none) else (if z13.2.2.1 ≤ n0 + 128 ∧ z13.2.2.2.1 ≤ s0 + 2600 then some (0, z13.2) else none)) else none) else none) (fun _ => none) z11.1) else none) else none) := by
  obtain ⟨G, F, a, d, C, k, w1, w2, w3, w4, w5, w6, w7, w8⟩ := w
  have hP := D_p w1
  have hj5 : j < 5 := by have := hP.1.2.2.1.2; omega
  obtain ⟨M1, G1, C2, E2, W2, clk2, v, wv, t1, t2, t3, t4, t5, t6, t7, t8, t9, t10, t11⟩ := CF (Gs := Gs) (lawf := tX12_clear b (b + (2 + 8 * j))) (cls := tX5_emptySet a (Int32.ofNat j)) (rel := fun _ w _ => w = gt E (2 + 8 * j) 0) (p := 64) (q := 0) (clk := clk) w1 w4 w5 w6 w7 w8 (fun N M' hC hE _ _ => by
    obtain ⟨C2, E2, clk2, c1, c2, c3, c4, c5, c6, c7, c8, c9, c10, c11, c12⟩ := clear_E (M := N) (M' := M') hP w2 w3 (by omega) hj hC hE
    exact ⟨C2, E2, M', clk2, (), _, c2, c1, gro.rf, c3, c4, c5, c6, c7, c8, by omega, c10, bz_of w7 c11 c12, rfl⟩)
  have hx := X_clear w1 t1 hj t2 rfl
  obtain ⟨q1, q2, q3, q4, -⟩ := t1
  refine ⟨W2, E2, clk2, ?_, t11, t9, by omega, by omega⟩
  rw [if_pos ⟨by omega, by omega⟩, if_pos (T_x w1.1.1), hx, Option.bind_some]
  simp only [Sum.elim_inl]
  rw [cv_2, if_pos (show M1.2.1 + 0 ≤ n0 + 128 ∧ M1.2.2.1 + 0 ≤ s0 + 2600 from ⟨by omega, by omega⟩), if_pos t4.t, t6, Option.bind_some, if_pos (by rw [t10]; exact R_0 w2 hj5), if_pos (show W2.2.1 ≤ n0 + 128 ∧ W2.2.2.1 ≤ s0 + 2600 from ⟨by omega, by omega⟩)]
theorem ch_step {c : Nat} (w : WW KK M x r b y u hz n clk E) (hclk : clk + 64 < 2000) (hc : c < 6) (h1 : M.2.1 ≤ n0) (h2 : M.2.2.1 ≤ s0) : goodC KK n0 s0 x r b y u hz n clk (tL_changes_J352 Gs n0 s0 x b (Int32.ofNat c) M) := by
  have w0 := w
  obtain ⟨G, F, a, d, C, k, w1, w2, w3, w4, w5, w6, w7, w8⟩ := w
  have hP := D_p w1
  rcases w5.2.2.2.2.1 c hc with e | ⟨q, e, -⟩
  · have := good_no w0 h1 h2
    rw [tL_changes_J352, w4.A7 w5, Option.bind_some, w4.cR w5 hc, Option.bind_some, if_pos (by rw [e]; rfl)]
    exact this
  obtain ⟨M1, G1, C2, E2, W2, clk2, v, wv, t1, t2, t3, t4, t5, t6, t7, t8, t9, t10, t11⟩ := CF (Gs := Gs) (lawf := tX12_step b q) (cls := fun N => if gt C (44 + c) 1 = 0 then some ((-1 : Int32), N) else tX5_meetNext a (a + (44 + c)) N) (rel := fun v w _ => v = w) (p := 64) (q := 0) (clk := clk) w1 w4 w5 w6 w7 w8 (fun N M' hC hE _ _ => by
    obtain ⟨C2, E2, v, c1, c2, c3, c4, c5, c6, c7, c8, c9, c10⟩ := step_E (M := N) (M' := M') hP w2 w3 hc e hC hE
    exact ⟨C2, E2, M', clk, v, v, c2, c1, gro.rf, c3, c4, c5, c6, c7, Nat.le_refl _, by omega, c8, bz_of w7 c9 c10, rfl⟩)
  have hx := X_step w1 t1 hc ((use_P hP w2 hc).2 (by rw [e]; exact fun g => by cases g)) t2 rfl
  obtain ⟨q1, q2, q3, q4, -⟩ := t1
  refine ⟨W2, E2, clk2, ?_, t11, t9, by omega, by omega⟩
  rw [tL_changes_J352, w4.A7 w5, Option.bind_some, w4.cR w5 hc, Option.bind_some, if_neg (by rw [e]; exact fun g => by cases g), if_pos ⟨by omega, by omega⟩, if_pos (T_x w1.1.1), hx, Option.bind_some]
  simp only [Sum.elim_inl]
  rw [t4.A7 t5, Option.bind_some, t4.cA t5 hc e, Option.bind_some, cv_2, if_pos (show M1.2.1 + 0 ≤ n0 + 128 ∧ M1.2.2.1 + 0 ≤ s0 + 2600 from ⟨by omega, by omega⟩), if_pos t4.t, t6, Option.bind_some, if_pos t10, if_pos (show W2.2.1 ≤ n0 + 128 ∧ W2.2.2.1 ≤ s0 + 2600 from ⟨by omega, by omega⟩)]
theorem ch_remove {j l : Nat} (w : WW KK M x r b y u hz n clk E) (hclk : clk + 64 < 2000) (hj : j < n) (hl : l < u) (h1 : M.2.1 ≤ n0) (h2 : M.2.2.1 ≤ s0) : goodC KK n0 s0 x r b y u hz n clk (tL_changes_J471 Gs n0 s0 x b (Int32.ofNat j) (b + (2 + 8 * j)) (Int32.ofNat l) M) := by
  obtain ⟨G, F, a, d, C, k, w1, w2, w3, w4, w5, w6, w7, w8⟩ := w
  have hP := D_p w1
  obtain ⟨M1, G1, C2, E2, W2, clk2, v, wv, t1, t2, t3, t4, t5, t6, t7, t8, t9, t10, t11⟩ := CF (Gs := Gs) (lawf := tX12_remove b (b + (2 + 8 * j)) (Int32.ofNat l)) (cls := tX5_takeOut a (Int32.ofNat j) (Int32.ofNat l)) (rel := fun v w _ => v = w ∧ (v = 0 ∨ v = 1)) (p := 64) (q := 1) (clk := clk) w1 w4 w5 w6 w7 w8 (fun N M' hC hE hfr hb => by
    obtain ⟨C2, E2, M2, clk2, v, c1, c2, c3, c4, c5, c6, c7, c8, c9, c10, c11, c12, c13, c14, -⟩ := remove_P (M := N) (M' := M') hP w2 w3 (by omega) hj hl hC hE hfr hb
    obtain ⟨g1, g2, g3, g4, g5⟩ := c3
    refine ⟨C2, E2, M2, clk2, v, v, c2, c1, ⟨g1, g2, g3, by omega, g5⟩, c4, c5, c6, c7, c8, c9, by omega, c11, bz_4 w7 c12, rfl, ?_⟩
    by_cases hM : isM F j l
    · exact .inr (c13 hM).1
    · exact .inl (c14 hM).1)
  have hx := X_remove w1 t1 hj hl t2 t10.2 rfl
  obtain ⟨q1, q2, q3, q4, -⟩ := t1
  refine ⟨W2, E2, clk2, ?_, t11, t9, by omega, by omega⟩
  rw [tL_changes_J471, if_pos ⟨by omega, by omega⟩, if_pos (T_x w1.1.1), hx, Option.bind_some]
  simp only [Sum.elim_inl]
  rw [cv_2, if_pos (show M1.2.1 + 1 ≤ n0 + 128 ∧ M1.2.2.1 + 6 ≤ s0 + 2600 from ⟨by omega, by omega⟩), if_pos t4.t, t6, Option.bind_some, if_pos t10.1, if_pos (show W2.2.1 ≤ n0 + 128 ∧ W2.2.2.1 ≤ s0 + 2600 from ⟨by omega, by omega⟩)]
theorem ch_add {j l : Nat} (w : WW KK M x r b y u hz n clk E) (hclk : clk + 64 < 2000) (hj : j < n) (hl : l < u) (h1 : M.2.1 ≤ n0) (h2 : M.2.2.1 ≤ s0) : goodC KK n0 s0 x r b y u hz n clk
    (if M.2.1 + 0 ≤ n0 + 128 ∧ M.2.2.1 + 0 ≤ s0 + 2600 then (if (M.1 b).1 = 14 then ((tX12_add b (b + (2 + 8 * j)) (Int32.ofNat l) M).bind fun z156 => if z156.2.2.1 + 50 ≤ n0 + 128 ∧ z156.2.2.2.1 + 2001 ≤ s0 + 2600 then (if (z156.2.1 x).1 = 11 then ((tX9_add Gs x (Int32.ofNat j) (Int32.ofNat l) z156.2).bind fun z157 => Sum.elim (fun r158 => (gA z157.2 (b + (2 + 8 * j)) 12 4).bind fun a159 => (aI z157.2 a159 101 (Int32.ofNat l)).bind fun v160 => if r158 = v160 then (if z157.2.2.1 ≤ n0 + 128 ∧ z157.2.2.2.1 ≤ s0 + 2600 then some (1, z157.2) else none) else (if z157.2.2.1 ≤ n0 + 128 ∧ z157.2.2.2.1 ≤ s0 + 2600 then some (0, z157.2) else none)) (fun _ => none) z157.1) else none) else none) else none) else none) := by
  obtain ⟨G, F, a, d, C, k, w1, w2, w3, w4, w5, w6, w7, w8⟩ := w
  have hP := D_p w1
  have hj5 : j < 5 := by have := hP.1.2.2.1.2; omega
  have hl64 : l < 64 := by have := hP.1.1.2; omega
  obtain ⟨W1, M1, G1, C2, E2, clk2, v, wv, t1, t2, t3, t4, t5, t6, t7, t8, t9, t10, t11, t12, t13, t14, t15, t16⟩ := LF (Gs := Gs) (lawf := tX12_add b (b + (2 + 8 * j)) (Int32.ofNat l)) (cls := tX5_bringIn a (a + (4 + 8 * j)) (Int32.ofNat l)) (rel := fun _ _ E2 => isM (gRow F E2) j l) (p := 64) (q := 0) (clk := clk) w1 w4 w5 w6 w7 w8 (fun N hC => by
    obtain ⟨C2, E2, clk2, v, c1, c2, c3, c4, c5, c6, c7, c8, c9, c10, c11, c12, -⟩ := add_P (M := N) (M' := M) hP w2 w3 (by omega) hj hl hC w5
    exact ⟨C2, E2, M, clk2, v, (), c2, c1, gro.rf, c3, c4, c5, c6, c7, c8, by omega, c10, bz_4 w7 (fun c hc l _ => by rw [c11 c hc]), c12⟩)
  obtain ⟨v2, v3, v4⟩ := c_placeOf (M := M1) (x := Int32.ofNat l) t8 (s := j) hj5 (t9.2.2.2.2.2 j hj).2 (t9.2.2.2.2.2 j hj).1 t9.1.1.2.2
  have ev : v2 = gt E2 (2 + 8 * j + (1 + 1)) l := by
    rcases v4 with ⟨-, g⟩ | ⟨y', y1, y2, y3, y4⟩
    · exact absurd t13 (g l hl64 rfl)
    · have : l = y' := (n_eq (by omega) (by omega)).mp y2
      rw [y4, ← this]; exact R_p gRow_1 hj5 hl64
  have hx := X_add t3 t6 hj hl t7 v3 rfl hB_cv
  obtain ⟨q1, q2, q3, q4, -⟩ := t6
  refine ⟨cv M1 a C2, E2, clk2, ?_, t16, t12, by show M1.2.1 ≤ _; omega, by show M1.2.2.1 ≤ _; omega⟩
  rw [if_pos ⟨by omega, by omega⟩, if_pos w4.t, t1, Option.bind_some, if_pos (show W1.2.1 + 50 ≤ n0 + 128 ∧ W1.2.2.1 + 2001 ≤ s0 + 2600 from ⟨by omega, by omega⟩), if_pos (T_x t3.1.1), hx, Option.bind_some]
  simp only [Sum.elim_inl]
  rw [t14.bA t15 (j := 1) hj5 (by omega), Option.bind_some, t14.mI t15 hj5 (by omega) hl64, Option.bind_some, if_pos ev, cv_2, if_pos (show M1.2.1 ≤ n0 + 128 ∧ M1.2.2.1 ≤ s0 + 2600 from ⟨by omega, by omega⟩)]
theorem ch_keep {j o : Nat} (w : WW KK M x r b y u hz n clk E) (hclk : clk + 64 < 2000) (hj : j < n) (ho : o < n) (h1 : M.2.1 ≤ n0) (h2 : M.2.2.1 ≤ s0) : goodC KK n0 s0 x r b y u hz n clk
    ((gI M (b + (2 + 8 * j)) 12 0).bind fun v101 => (tL_changes_L517 n0 s0 x b (Int32.ofNat j) (b + (2 + 8 * j)) (Int32.ofNat o) vF 0 (v101 - 1) M).bind fun z124 => if z124.2.2.1 + 50 ≤ n0 + 128 ∧ z124.2.2.2.1 + 2001 ≤ s0 + 2600 then (if (z124.2.1 x).1 = 11 then ((tX9_keep Gs x (Int32.ofNat j) (Int32.ofNat o) z124.2).bind fun z125 => Sum.elim (fun r126 => if r126 = z124.1 then (if z125.2.2.1 ≤ n0 + 128 ∧ z125.2.2.2.1 ≤ s0 + 2600 then some (1, z125.2) else none) else (if z125.2.2.1 ≤ n0 + 128 ∧ z125.2.2.2.1 ≤ s0 + 2600 then some (0, z125.2) else none)) (fun _ => none) z125.1) else none) else none) := by
  obtain ⟨G, F, a, d, C, k, w1, w2, w3, w4, w5, w6, w7, w8⟩ := w
  have hP := D_p w1
  have hj5 : j < 5 := by have := hP.1.2.2.1.2; omega
  obtain ⟨W1, M1, G1, C2, E2, clk2, v, wv, t1, t2, t3, t4, t5, t6, t7, t8, t9, t10, t11, t12, t13, t14, t15, t16⟩ := LF (Gs := Gs) (lawf := tL_changes_L517 n0 s0 x b (Int32.ofNat j) (b + (2 + 8 * j)) (Int32.ofNat o) vF 0 (gt E (2 + 8 * j) 0 - 1)) (cls := tX5_keepCommon a (Int32.ofNat j) (Int32.ofNat o)) (rel := fun v w _ => v = w) (p := 64) (q := 64) (clk := clk) w1 w4 w5 w6 w7 w8 (fun N hC => by
    obtain ⟨C2, E2, M2, clk2, v, c1, c2, c3, c4, c5, c6, c7, c8, c9, c10, c11, c12⟩ := keep_E (x0 := x) (n0 := n0) (s0 := s0) (M := N) (M' := M) hj ho hC w5 hP w2 w3 hclk (fun z hz => (w6.1 z hz).1) w8 (by omega) (by omega)
    exact ⟨C2, E2, M2, clk2, v, v, c2, c1, c3, c4, c5, c6, c7, c8, c9, c10, c11, bz_4 w7 c12, rfl⟩)
  have hx := X_keep t3 t6 hj ho t7 rfl
  obtain ⟨q1, q2, q3, q4, -⟩ := t6
  refine ⟨cv M1 a C2, E2, clk2, ?_, t16, t12, by show M1.2.1 ≤ _; omega, by show M1.2.2.1 ≤ _; omega⟩
  rw [w4.bI w5 hj5, Option.bind_some, t1, Option.bind_some, if_pos (show W1.2.1 + 50 ≤ n0 + 128 ∧ W1.2.2.1 + 2001 ≤ s0 + 2600 from ⟨by omega, by omega⟩), if_pos (T_x t3.1.1), hx, Option.bind_some]
  simp only [Sum.elim_inl]
  rw [if_pos t13, cv_2, if_pos (show M1.2.1 ≤ n0 + 128 ∧ M1.2.2.1 ≤ s0 + 2600 from ⟨by omega, by omega⟩)]
theorem ch_unite {j o : Nat} (w : WW KK M x r b y u hz n clk E) (hclk : clk + 64 < 2000) (hj : j < n) (ho : o < n) (h1 : M.2.1 ≤ n0) (h2 : M.2.2.1 ≤ s0) : goodC KK n0 s0 x r b y u hz n clk
    ((gI M (b + (2 + 8 * j)) 12 0).bind fun v130 => (tL_changes_L607 n0 s0 x b (Int32.ofNat j) (b + (2 + 8 * j)) (Int32.ofNat o) v130 vF 0 M).bind fun z151 => tL_changes_J653 Gs n0 s0 x (Int32.ofNat j) (b + (2 + 8 * j)) (Int32.ofNat o) v130 z151.2) := by
  obtain ⟨G, F, a, d, C, k, w1, w2, w3, w4, w5, w6, w7, w8⟩ := w
  have hP := D_p w1
  have hj5 : j < 5 := by have := hP.1.2.2.1.2; omega
  obtain ⟨W1, M1, G1, C2, E2, clk2, v, wv, t1, t2, t3, t4, t5, t6, t7, t8, t9, t10, t11, t12, t13, t14, t15, t16⟩ := LF (Gs := Gs) (lawf := tL_changes_L607 n0 s0 x b (Int32.ofNat j) (b + (2 + 8 * j)) (Int32.ofNat o) (gt E (2 + 8 * j) 0) vF 0) (cls := tX5_bringAll a (Int32.ofNat j) (Int32.ofNat o)) (rel := fun v _ E2 => v = gt E2 (2 + 8 * j) 0 - gt E (2 + 8 * j) 0) (p := 64) (q := 0) (clk := clk) w1 w4 w5 w6 w7 w8 (fun N hC => by
    obtain ⟨C2, E2, clk2, v, c1, c2, c3, c4, c5, c6, c7, c8, c9, c10, c11, c12⟩ := unite_E (x0 := x) (n0 := n0) (s0 := s0) (x8 := gt E (2 + 8 * j) 0) (M := N) (M' := M) hj ho hC w5 hP w2 w3 hclk (by omega) (by omega)
    exact ⟨C2, E2, M, clk2, v, (), c2, c1, gro.rf, c4, c5, c6, c7, c8, c9, c10, c11, bz_4 w7 (fun c hc l _ => by rw [c12 c hc]), c3⟩)
  have hx := X_unite t3 t6 hj ho t7 rfl
  obtain ⟨q1, q2, q3, q4, -⟩ := t6
  refine ⟨cv M1 a C2, E2, clk2, ?_, t16, t12, by show M1.2.1 ≤ _; omega, by show M1.2.2.1 ≤ _; omega⟩
  rw [w4.bI w5 hj5, Option.bind_some, t1, Option.bind_some, tL_changes_J653, if_pos (show W1.2.1 + 50 ≤ n0 + 128 ∧ W1.2.2.1 + 2001 ≤ s0 + 2600 from ⟨by omega, by omega⟩), if_pos (T_x t3.1.1), hx, Option.bind_some]
  simp only [Sum.elim_inl]
  rw [t14.bI t15 hj5, Option.bind_some, if_pos t13, cv_2, if_pos (show M1.2.1 ≤ n0 + 128 ∧ M1.2.2.1 ≤ s0 + 2600 from ⟨by omega, by omega⟩)]
end
