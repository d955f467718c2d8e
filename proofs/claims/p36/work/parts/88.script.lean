section
/-- the end of a play: the text is full -/
def plD (Gs : Nat → Nat) (n0 s0 x y b A : Nat) (W : vMe) : Option (Int32 × vMe) :=
  if W.2.1 + 2 ≤ n0 + 4000 ∧ W.2.2.1 + 254 ≤ s0 + 200000 then
  (if (W.1 A).1 = 2 then
  ((tJ4_toString_0e30d A W).bind fun z64 =>
  if z64.2.2.1 + 20 ≤ n0 + 4000 ∧ z64.2.2.2.1 + 100 ≤ s0 + 200000 then
  ((tL_feeds Gs x z64.1 z64.2).bind fun z65 =>
  if z65.1 = 0 then
  (if z65.2.2.1 ≤ n0 + 4000 ∧ z65.2.2.2.1 ≤ s0 + 200000 then some (0, z65.2) else none)
else
  (if z65.2.2.1 + 0 ≤ n0 + 4000 ∧ z65.2.2.2.1 + 0 ≤ s0 + 200000 then
  (if (z65.2.1 A).1 = 2 then
  ((tJ4_length_8abf5 A z65.2).bind fun z67 =>
  if z65.2.2.1 + 26 ≤ n0 + 4000 ∧ z65.2.2.2.1 + 669 ≤ s0 + 200000 then
  (if (z65.2.1 x).1 = 11 then
  ((tX9_parse Gs x z67 z65.2).bind fun z68 =>
  Sum.elim (fun r69 =>
  if r69 = 0 then
  ((tL_plays_L380 Gs n0 s0 x y b vF 0 z68.2).bind fun z78 =>
  Sum.elim (fun r80 => some (r80, z78.2)) (fun w79 =>
  if z78.2.2.1 ≤ n0 + 4000 ∧ z78.2.2.2.1 ≤ s0 + 200000 then some (1, z78.2) else none) z78.1)
else
  (if z68.2.2.1 ≤ n0 + 4000 ∧ z68.2.2.2.1 ≤ s0 + 200000 then some (0, z68.2) else none)) (fun _ => none) z68.1)
else none)
else none)
else none)
else none))
else none)
else none)
else none
/-- the statements of the text are still to come -/
def plC (Gs : Nat → Nat) (n0 s0 x y b A : Nat) (W : vMe) : Option (Int32 × vMe) :=
  (tL_plays_L125 Gs n0 s0 x y b A vF 0 W).bind fun z30 =>
  if z30.2.2.1 + 0 ≤ n0 + 4000 ∧ z30.2.2.2.1 + 0 ≤ s0 + 200000 then
  ((tL_draw y 5 z30.2).bind fun z31 =>
  (tL_plays_L168 Gs n0 s0 x y b A vF z31.1 z31.2).bind fun z63 => plD Gs n0 s0 x y b A z63.2)
else none
variable {KK : Nat → vOb} {M N : vMe} {x r b y u hz n k lo lw A p n0 s0 : Nat} {G F C E E2 : Nat → Nat → Value} {Gs : Nat → Nat} {l : List Nat}
theorem CW_GH (w : CW KK (cut N lo) x r b y E) (h : zE u hz n E) (hu : 1 ≤ u ∧ u ≤ 64) (hh : 1 ≤ hz ∧ hz ≤ 60) (hn : n ≤ 5) : GH b u hz n 0 0 E := by
  obtain ⟨G, F, a, d, C, u0, hz0, n0, k0, w1, w4, w5, w6, w7, w8⟩ := w
  exact GH_new h (D_c w1) hu hh w7 hn
set_option maxRecDepth 20000 in
/-- the statements are written -/
theorem plC_P (w : CW KK (cut N lo) x r b y E) (st : stK KK x Gs) (hz0 : zE u hz n E) (hu : 1 ≤ u ∧ u ≤ 64) (hh : 1 ≤ hz ∧ hz ≤ 60) (hn : 1 ≤ n ∧ n ≤ 4) (sb : sbC N lo p lo ((hdT u hz).length + 16) (hdT u hz)) (hl : lo ≤ N.2.1) (h1 : N.2.1 + 2000 ≤ n0 + 4000) (h2 : N.2.2.1 + 80000 ≤ s0 + 200000) :
    ∃ N2 p2 cap2 E2 k2 clk2 scr, plC Gs n0 s0 x y b lo N = plD Gs n0 s0 x y b lo N2 ∧ sbC N2 lo p2 lo cap2 (txT u hz n scr) ∧ (9 ≤ (txT u hz n scr).length ∧ (txT u hz n scr).length ≤ 170) ∧ CW KK (cut N2 lo) x r b y E2 ∧ (∀ q, q ∈ scr → scrO u n q) ∧ scr.length ≤ 4 ∧ scrR b scr E E2 0 k2 ∧ E2 42 = E 42 ∧ kp N N2 b lo y E ∧ GH b u hz n k2 clk2 E2 ∧ lo ≤ N2.2.1 ∧ N2.2.1 ≤ N.2.1 + 100 ∧ N2.2.2.1 ≤ N.2.2.1 + 20000 ∧ N2.2.2.2 = N.2.2.2 := by
  have g := CW_GH (b := b) w hz0 hu hh (by omega)
  have hH := hdT_len (u := u) (hz := hz) hu.2 (by omega)
  have hcap : capI ((hdT u hz).length + 16) := .inl (by omega)
  obtain ⟨s1, s2, ⟨s6, s11, s20, s21, s22, s23, s24⟩, -⟩ := st
  obtain ⟨W1, p1, cap1, a1, a2, a3, a4, a5, a6, a7, a8, a9⟩ := sets_L (x := x) (y := y) (n0 := n0) (s0 := s0) (Gs := Gs) g n vF 0 N (hdT u hz) p ((hdT u hz).length + 16) (by omega) (by unfold vF; omega) w hl sb hcap (by omega) (sK_ok w s21) (by omega) (by omega)
  obtain ⟨c, W2, hc, d1, d2, d3, w2⟩ := draw_C a4 (show 1 ≤ 5 by omega) (by omega)
  obtain ⟨he, ho, hA, hy, hb, hny⟩ := CW_h a4
  obtain ⟨f1, f2, f3, f4, f5, -⟩ := sbF a2
  have e1 : W2.2.1 = W1.2.1 := by rw [d2]
  have e2 : W2.2.2.1 = W1.2.2.1 := by rw [d2]
  have e3 : W2.2.2.2 = W1.2.2.2 := by rw [d2]
  have sb2 : sbC W2 lo p1 lo cap1 (hdT u hz ++ setsT n 0) := sbC_mv a2 (d3 lo (by omega)) (d3 p1 (by omega)) (by omega) e3
  have lS : ∀ i j, (setsT i j).length = 6 * i := fun i => by
    induction i with
    | zero => intro j; rfl
    | succ i ih => intro j; rw [setsT, List.length_append, ih]; show 6 + 6 * i = _; omega
  have lH : (hdT u hz ++ setsT n 0).length = (hdT u hz).length + 6 * n := by rw [List.length_append, lS]
  obtain ⟨dg, dq⟩ := dK_ok w2 s2
  obtain ⟨W3, p3, cap3, E3, clk3, k3, scr, t1, t2, t3, t4, t5, t6, t7, t8, t9, t10, t11, t12, t13, t14, t15⟩ := script_L (x := x) (y := y) (n0 := n0) (s0 := s0) (Gs := Gs) (b := b) hn.1 (show n ≤ 5 by omega) c vF W2 (hdT u hz ++ setsT n 0) p1 cap1 E 0 0 (by unfold vF; omega) w2 (by omega) g (by omega) (by omega) sb2 a3 (by omega) dg dq (sK_ok w2 s22) (sK_ok w2 s23) (sK_ok w2 s24) (by omega) (by omega)
  rw [txT_eq] at t3
  have lT : (txT u hz n scr).length = (hdT u hz).length + 6 * n + (scrT scr).length := by rw [← txT_eq, List.length_append, lH]
  refine ⟨W3, p3, cap3, E3, k3, clk3, scr, ?_, t3, ⟨by omega, by omega⟩, t4, t2, by omega, t7, t8, fun z h1 h2 h3 => (t9 z h1 h2 h3).trans ((d3 z h2).trans (a5 z h1 h2 h3)), t5, t10, by omega, by omega, by omega⟩
  rw [plC, show tL_plays_L125 Gs n0 s0 x y b lo vF 0 N = _ from a1, Option.bind_some]
  dsimp only
  rw [if_pos ⟨by omega, by omega⟩, show tL_draw y 5 W1 = tL_draw y (Int32.ofNat 5) W1 from rfl, d1, Option.bind_some]
  dsimp only
  rw [t1, Option.bind_some]
end
