section
variable {KK : Nat → vOb} {M : vMe} {x r a d b y u hz n k clk n0 s0 : Nat} {G F C E : Nat → Nat → Value} {Gs : Nat → Nat}
theorem e_cursors_L {P : simP C F u hz n k} (hF : F 1 = eR E) (h : eOk M b E) : ∀ (j f p v : Nat), p + j = 6 → j < f → tX12_cursors_L4 b (ew M b E) f (Int32.ofNat v) (Int32.ofNat p) = some (Int32.ofNat (v + sumU (inU F) j p)) := by
  intro j
  induction j with
  | zero =>
    intro f p v hp hf
    obtain ⟨f, rfl⟩ : ∃ g, f = g + 1 := ⟨f - 1, by omega⟩
    rw [tX12_cursors_L4, if_pos (by rw [l6]; exact (n_le (by omega) (by omega)).mpr (by omega))]; rfl
  | succ j ih =>
    intro f p v hp hf
    obtain ⟨f, rfl⟩ : ∃ g, f = g + 1 := ⟨f - 1, by omega⟩
    obtain ⟨u1, u2⟩ := use_P P hF (c := p) (by omega)
    rw [tX12_cursors_L4, if_neg (by rw [l6]; exact fun g => by have := (n_le (by omega) (by omega)).mp g; omega), e_A7 h, Option.bind_some, e_cR (by omega), Option.bind_some, sumU]
    by_cases g : vR (E 42 p) = none
    · rw [if_pos g, tX12_cursors_J25_4, Int32.add_zero, n_succ, ih f (p + 1) v (by omega) (by omega), if_neg (by unfold inU; rw [u1 g]; decide), Nat.zero_add]
    · rw [if_neg g, tX12_cursors_J25_4, n_succ, n_succ, ih f (p + 1) (v + 1) (by omega) (by omega), if_pos (by unfold inU; rw [u2 g]; decide), Nat.add_assoc]
theorem e_cursors (P : simP C F u hz n k) (hF : F 1 = eR E) (h : eOk M b E) : tX12_cursors b (ew M b E) = some (Int32.ofNat (sumU (inU F) 6 0)) := by
  rw [tX12_cursors, show tX12_cursors_L4 b (ew M b E) vF 0 0 = some (Int32.ofNat (0 + sumU (inU F) 6 0)) from e_cursors_L (P := P) hF h 6 vF 0 0 (by omega) (by unfold vF; omega), Option.bind_some, Nat.zero_add]
theorem e_free_L {c x2 x4 : Nat} {x3 : Int32} (P : simP C F u hz n k) (hF : F 1 = eR E) (h : eOk M b E) (hc : c < 6) (hn : inU F c = false) (hu : ∀ d, d < c → inU F d = true) : ∀ (j f p : Nat), p + j = c → j < f → tL_changes_L200 n0 s0 x b x2 x3 x4 f (Int32.ofNat p) (ew M b E) = some (Int32.ofNat c, ew M b E) := by
  intro j
  induction j with
  | zero =>
    intro f p hp hf
    obtain ⟨f, rfl⟩ : ∃ g, f = g + 1 := ⟨f - 1, by omega⟩
    have : p = c := by omega
    subst this
    obtain ⟨u1, u2⟩ := use_P P hF (c := p) hc
    have g : vR (E 42 p) = none := by
      by_cases g : vR (E 42 p) = none
      · exact g
      · unfold inU at hn; rw [u2 g] at hn; exact absurd hn (by decide)
    rw [tL_changes_L200, e_A7 h, Option.bind_some, e_cR hc, Option.bind_some, if_pos g]
  | succ j ih =>
    intro f p hp hf
    obtain ⟨f, rfl⟩ : ∃ g, f = g + 1 := ⟨f - 1, by omega⟩
    obtain ⟨u1, u2⟩ := use_P P hF (c := p) (by omega)
    have g : ¬ vR (E 42 p) = none := fun g => by
      have := hu p (by omega)
      unfold inU at this; rw [u1 g] at this; exact absurd this (by decide)
    rw [tL_changes_L200, e_A7 h, Option.bind_some, e_cR (by omega), Option.bind_some, if_neg g, n_succ, ih f (p + 1) (by omega) (by omega)]
/-- a cell of the law's cursors that lies by itself -/
theorem q_sV {N : vMe} {q i : Nat} {K : Nat → Value} {v : Value} (h : N.1 q = (13, 0, K)) (hb : N.2.2.2 ≤ q) : ∃ N2, sV N q 13 i v = some N2 ∧ N2.1 q = (13, 0, updV K i v) ∧ N2.2 = N.2 ∧ ∀ z, z ≠ q → N2.1 z = N.1 z := by
  refine ⟨wr N q i v, by simp [sV, h, hb], by simp [wr, pt, h], rfl, fun z hz => by simp [wr, pt, hz]⟩
/-- the new cursor enters the row, then the class's -/
theorem ch_open2 {j c q : Nat} {y1 : Int32} {K : Nat → Value} {N : vMe} (w : WW KK (N.1, N.2.1, N.2.2.1, N.2.2.2) x r b y u hz n clk E) (hc : c < 6) (hj : j < n)
    (hD : simD M x r G F a d C u hz n k) (w2 : F 1 = eR E) (w3 : okE b E F n clk) (w4 : hE M b E) (w5 : eOk M b E) (w6 : sepW KK M x r b y G E) (w7 : bz C) (w8 : M.2.2.2 ≤ M.2.1) (hq : q = M.2.1)
    (g1 : ∀ z, z < M.2.1 → z ≠ y → N.1 z = M.1 z) (gy : (N.1 y).1 = 101 ∧ 0 < (N.1 y).2.1) (gq : N.1 q = (13, 0, K)) (g2 : N.2.1 = M.2.1 + 1) (g3 : N.2.2.1 = M.2.2.1 + 8) (g4 : N.2.2.2 = M.2.2.2)
    (k0 : K 0 = .ref (b + (2 + 8 * j))) (k1 : vI (K 1) = Int32.ofNat j) (k2 : vI (K 2) = 0) (k3 : vI (K 3) = gt E 0 3) (k4 : vI (K 4) = 0) (k5 : vI (K 5) = -1) (k6 : vI (K 6) = 1) (hy : y1 = 0 ∨ y1 = 1)
    (hn : inU F c = false) (hu : ∀ d, d < c → inU F d = true) (h1 : M.2.1 ≤ n0) (h2 : M.2.2.1 ≤ s0) : goodC KK n0 s0 x r b y u hz n clk (tL_changes_J262 Gs n0 s0 x b (Int32.ofNat j) (Int32.ofNat c) q q y1 N) := by
  have hP := D_p hD
  have s6 := w6
  obtain ⟨t1, t2, t3, t4, t5, t6, t7⟩ := s6
  have hqn : ¬ eA b E q := fun g => by have := (t1 q g).1; omega
  have hqy : q ≠ y := by omega
  obtain ⟨N45, e45, f1, f2, f3⟩ := q_sV (i := 7) (v := .int y1) gq (by rw [g4]; omega)
  obtain ⟨K2, hK2⟩ : ∃ K2, K2 = updV K 7 (.int y1) := ⟨_, rfl⟩
  rw [← hK2] at f1
  have kl : ∀ l, l ≠ 7 → K2 l = K l := fun l hl => by rw [hK2]; simp [updV, hl]
  have k7 : vI (K2 7) = y1 := by rw [hK2]; simp [updV, vI]
  -- N45 holds the law's sets
  have a45 : ∀ z, z < M.2.1 → z ≠ y → N45.1 z = M.1 z := fun z hz hy' => (f3 z (by omega)).trans (g1 z hz hy')
  have h45 : hE N45 b E := w4.mv (fun z hz => a45 z (t1 z hz).1 (fun e => t7.1 (e ▸ hz)))
  have o45 : eOk N45 b E := ⟨by rw [f2, g4]; exact w5.1, w5.2⟩
  obtain ⟨E2, hE2⟩ : ∃ E2, E2 = opE E c q K2 := ⟨_, rfl⟩
  obtain ⟨N47, h47⟩ : ∃ N47, N47 = wr N45 (b + 42) c (.ref q) := ⟨_, rfl⟩
  have e47 : N47.2 = N.2 := by rw [h47]; exact f2
  have wo : ∀ z, z ≠ b + 42 → N47.1 z = N45.1 z := fun z hz => by rw [h47]; simp [wr, pt, hz]
  have hb44 : b + 44 ≤ q := by have := (t1 (b + 43) (.inl ⟨by omega, by omega⟩)).1; omega
  have he : hE N47 b E2 := h47 ▸ hE_set h45 o45 (by rw [hE2]; exact if_pos rfl) (fun i hi h => by rw [hE2]; unfold opE; rw [if_neg h, if_neg (by omega)]) (fun d hd hne => by rw [hE2]; unfold opE; rw [if_neg (by omega), if_neg (by omega)]) (fun z hz => by
    cases hz
    exact ⟨by rw [f1, hE2, opE_k], hb44⟩)
  have ho : eOk N47 b E2 := hE2 ▸ opE_ok ⟨by rw [e47, g4]; exact w5.1, w5.2⟩ hc hb44 hqn
  have hA2 : ∀ z, eA b E2 z → eA b E z ∨ z = q := fun z g => by
    rcases g with g | ⟨d, hd, g⟩
    · exact .inl (.inl g)
    · rw [hE2] at g
      have g' : updV (E 42) c (.ref q) d = .ref z := g
      by_cases e : d = c
      · simp [updV, e] at g'; exact .inr g'.symm
      · simp only [updV, e, if_false] at g'; exact .inl (.inr ⟨d, hd, g'⟩)
  have b42 : eA b E (b + 42) := .inl ⟨by omega, by omega⟩
  have s1 : simD N47 x r G F a d C u hz n k := simD_law hD (fun z hz hw => by
    have ny : z ≠ y := fun e => by
      rw [e, t2] at hw
      rcases hw with g | g | g
      · exact t6 g
      · exact absurd g (by decide)
      · exact absurd g (by decide)
    have n42 : z ≠ b + 42 := fun e => by
      rw [e] at hw
      rcases hw with g | g | g
      · exact (t1 _ b42).2 g
      · exact (w4.tag b42).1 g
      · exact (w4.tag b42).2 g
    exact (wo z n42).trans (a45 z hz ny)) (by rw [e47, g2]; omega) (by rw [e47, g4])
  have nyb : y ≠ b + 42 := fun e => t7.1 (e ▸ b42)
  have ey : N47.1 y = N.1 y := (wo y nyb).trans (f3 y (Ne.symm hqy))
  have sp : sepW KK N47 x r b y G E2 := by
    refine ⟨fun z hz => ?_, by rw [ey]; exact gy.1, by rw [ey]; exact gy.2, by rw [e47, g4]; exact t4, by rw [e47, g2]; omega, t6, fun g => ?_, t7.2.1, t7.2.2.1, t7.2.2.2.1, fun z hz => (t7.2.2.2.2 z hz).elim (fun k1 k2 => ⟨by rw [e47, g2]; omega, k2.1, ((wo z (by have := t7.2.2.1; omega)).trans (a45 z k1 (by have := t7.2.2.2.1; omega))).trans k2.2⟩)⟩
    · rcases hA2 z hz with g | g
      · obtain ⟨p1, p2⟩ := t1 z g
        exact ⟨by rw [e47, g2]; omega, p2⟩
      · subst g
        exact ⟨by rw [e47, g2]; omega, fun g => by have := own_lt hD g; omega⟩
    · rcases hA2 y g with g | g
      · exact t7.1 g
      · exact hqy g.symm
  obtain ⟨M1, G1, hr⟩ := rem_P (Gs := Gs) s1 w7
  have hrr := hr
  obtain ⟨q1, q2, q3, q4, q5, q6, q7, q8, q9, q10, q11, q12, q13⟩ := hrr
  obtain ⟨p1, p2, -⟩ := open_E (K := K2) (q := q) hP w2 w3 hc hj hy q8 (by rw [kl 0 (by omega)]; exact k0) (by rw [kl 1 (by omega)]; exact k1) (by rw [kl 2 (by omega)]; exact k2) (by rw [kl 3 (by omega)]; exact k3) (by rw [kl 4 (by omega)]; exact k4) (by rw [kl 5 (by omega)]; exact k5) (by rw [kl 6 (by omega)]; exact k6) k7
  rw [← hE2] at p1 p2
  obtain ⟨b1, b2⟩ := c_begin (M := M1) (s := Int32.ofNat j) (st := y1) (clk := gt C 0 7) q8 hc (by rcases hy with e | e <;> (rw [e]; decide))
  obtain ⟨C2, hC2⟩ : ∃ C2, C2 = cBeg C c (Int32.ofNat j) y1 (gt C 0 7) := ⟨_, rfl⟩
  rw [← hC2] at p1 b1 b2
  rw [q7.eq] at b1
  have kn : kN C C2 := fun t ht => by
    rw [hC2]; simp only [cBeg]
    rw [pu_ne (by omega), pu_ne (by omega), pu_ne (by omega), pu_ne (by omega), pu_ne (by omega), pu_ne (by omega), pu_ne (by omega), pu_ne (by omega)]
  obtain ⟨F2, f4, f5⟩ := q13 C2 E2 k b2 kn p1
  obtain ⟨v1, v2, v3⟩ := sep_rem hr sp he ho C2
  have z2 : bz C2 := fun c' hc' k' hk' => by
    have hz := w7 c' hc' k' hk'
    rw [hC2]
    unfold cBeg
    simp only [gt_pu]
    by_cases e : 44 + c' = 44 + c
    · rcases (show k' = 0 ∨ k' = 1 ∨ k' = 2 by omega) with e2 | e2 | e2 <;> subst e2 <;> simp [e]
      · decide
      · decide
      · rcases hy with e | e <;> (rw [e]; decide)
    · simp only [e, false_and, if_false]; exact hz
  have hfree : tX5_freeCursor a N47 = some (Int32.ofNat c) := by
    have hb := D_b s1
    rcases c_free (M := N47) (D_c s1) (fun c hc => hP.2.2.2.1 c hc) with ⟨-, z2⟩ | ⟨c', z1, z2, z3, z4, z5⟩
    · have := sumU_full (inU F) 6 0 z2 c (by omega) (by omega)
      rw [hn] at this; exact absurd this (by decide)
    · rw [hb.eq] at z2
      have : c' = c := by
        rcases Nat.lt_trichotomy c' c with g | g | g
        · have := hu c' g; rw [z4] at this; exact absurd this (by decide)
        · exact g
        · have := z5 c g; rw [hn] at this; exact absurd this (by decide)
      rw [z2, this]
  have hx := X_open (st := y1) s1 hr hj hc hfree b1 rfl
  have hn5 := hP.1.2.2.1.2
  have rQ : sQ N45 (b + 42) 110 (Int32.ofNat c) q 13 = some N47 := by
    have i42 := h45.1 42 (by omega)
    have hb2 : N45.2.2.2 ≤ b + 42 := by have := o45.1; omega
    rw [h47]
    simp only [sQ, i42, f1, show eT 42 = (110, 6) from rfl, n_clamp (show c < 2147483648 by omega), n_neg (show c < 2147483648 by omega), hb2]; simp [hc]
  have q2' : M1.2.1 ≤ M.2.1 + 51 := by have : M1.2.1 ≤ N47.2.1 + 50 := q2; rw [e47, g2] at this; omega
  have q3' : M1.2.2.1 ≤ M.2.2.1 + 2009 := by have : M1.2.2.1 ≤ N47.2.2.1 + 2001 := q3; rw [e47, g3] at this; omega
  have rI : gI N47 q 13 7 = some y1 := by
    have h42 : E2 42 c = .ref q := by rw [hE2]; exact opE_r
    rw [he.vI ho hc h42, hE2]
    unfold gt; rw [opE_k, k7]
  refine ⟨cv M1 a C2, E2, clk, ?_, ⟨G1, F2, a, d, C2, k, f5, f4, okE_row p2 (by rw [f4, gRow_1]) hn5, v2, v3, v1, z2, ?_⟩, by omega, by show M1.2.1 ≤ _; omega, by show M1.2.2.1 ≤ _; omega⟩
  · rw [tL_changes_J262, if_pos (by rcases hy with e | e <;> (rw [e]; decide)), e45, Option.bind_some, h45.A7 o45, Option.bind_some, rQ, Option.bind_some, rI, Option.bind_some, e47, g2, g3, if_pos ⟨by omega, by omega⟩, if_pos (T_x s1.1.1), hx, Option.bind_some]
    simp only [Sum.elim_inl]
    rw [if_pos trivial, cv_2, if_pos (show M1.2.1 ≤ n0 + 128 ∧ M1.2.2.1 ≤ s0 + 2600 from ⟨by omega, by omega⟩)]
  · show M1.2.2.2 ≤ M1.2.1
    have h5 : M1.2.2.2 = N47.2.2.2 := q5
    have h6 : N47.2.1 ≤ M1.2.1 := q4
    rw [e47, g4] at h5
    rw [e47, g2] at h6
    omega
theorem ch_open {j : Nat} (w : WW KK M x r b y u hz n clk E) (hclk : clk + 64 < 2000) (hj : j < n) (h1 : M.2.1 ≤ n0) (h2 : M.2.2.1 ≤ s0) : goodC KK n0 s0 x r b y u hz n clk (tL_changes_J186 Gs n0 s0 x b y (Int32.ofNat j) (b + (2 + 8 * j)) M) := by
  have w0 := w
  have gn := good_no w0 h1 h2
  obtain ⟨G, F, a, d, C, k, w1, w2, w3, w4, w5, w6, w7, w8⟩ := w
  have hP := D_p w1
  have hb := D_b w1
  have ec := e_cursors (M := M) hP w2 w5
  rw [w4.eq w5] at ec
  have hle := sumU_le (inU F) 6 0
  rw [tL_changes_J186, if_pos ⟨by omega, by omega⟩, if_pos w4.t, ec, Option.bind_some]
  by_cases q6 : sumU (inU F) 6 0 = 6
  · rw [if_pos (by rw [q6]; rfl)]
    exact gn
  rw [if_neg (show ¬ Int32.ofNat (sumU (inU F) 6 0) = 6 from fun g => q6 ((n_eq (b := 6) (by omega) (by omega)).mp g))]
  rcases c_free (M := M) (D_c w1) (fun c hc => hP.2.2.2.1 c hc) with ⟨-, z2⟩ | ⟨c, hc, -, -, z4, z5⟩
  · exact absurd z2 q6
  have ef := e_free_L (M := M) (n0 := n0) (s0 := s0) (x := x) (x2 := y) (x4 := b + (2 + 8 * j)) (x3 := Int32.ofNat j) hP w2 w5 hc z4 z5 c vF 0 (by omega) (by unfold vF; omega)
  rw [w4.eq w5] at ef
  rw [show tL_changes_L200 n0 s0 x b y (Int32.ofNat j) (b + (2 + 8 * j)) vF 0 M = some (Int32.ofNat c, M) from ef, Option.bind_some]
  obtain ⟨q, hq⟩ : ∃ q, q = M.2.1 := ⟨_, rfl⟩
  obtain ⟨K0, hK0⟩ : ∃ K0, K0 = vp_V [.null, .int 0, .int 0, .int 0, .int 0, .int 0, .int 0, .int 0] := ⟨_, rfl⟩
  obtain ⟨N37, h37⟩ : ∃ N37, N37 = nw M 13 0 8 K0 := ⟨_, rfl⟩
  have e37 : nwO M 13 0 8 K0 n0 s0 128 2600 = some N37 := by rw [h37]; exact if_pos ⟨by omega, by omega, by omega⟩
  have a37 : N37.1 q = (13, 0, K0) := by rw [h37, hq]; exact if_pos rfl
  have b37 : N37.2 = (M.2.1 + 1, M.2.2.1 + 8, M.2.2.2) := by rw [h37]; rfl
  have c37 : ∀ z, z ≠ q → N37.1 z = M.1 z := fun z hz => by rw [h37]; exact if_neg (by rw [← hq]; exact hz)
  have hbq : M.2.2.2 ≤ q := by omega
  obtain ⟨NA, iA, aA', bA, cA⟩ := q_sV (i := 5) (v := .int (-1)) a37 (by rw [b37]; exact hbq)
  obtain ⟨NB, iB, aB, bB, cB'⟩ := q_sV (i := 6) (v := .int 1) aA' (by rw [bA, b37]; exact hbq)
  obtain ⟨N39, i39, a39, b39, c39⟩ := q_sV (i := 0) (v := .ref (b + (2 + 8 * j))) aB (by rw [bB, bA, b37]; exact hbq)
  obtain ⟨N40, i40, a40, b40, c40⟩ := q_sV (i := 1) (v := .int (Int32.ofNat j)) a39 (by rw [b39, bB, bA, b37]; exact hbq)
  obtain ⟨N42, i42, a42, b42, c42⟩ := q_sV (i := 3) (v := .int (gt E 0 3)) a40 (by rw [b40, b39, bB, bA, b37]; exact hbq)
  have e42 : N42.2 = (M.2.1 + 1, M.2.2.1 + 8, M.2.2.2) := by rw [b42, b40, b39, bB, bA, b37]
  have g40 : ∀ z, z ≠ q → N40.1 z = M.1 z := fun z hz => by rw [c40 z hz, c39 z hz, cB' z hz, cA z hz, c37 z hz]
  have g42 : ∀ z, z ≠ q → N42.1 z = M.1 z := fun z hz => by rw [c42 z hz, g40 z hz]
  obtain ⟨jd, N43, d1, d2, d3, d4, d5, d6⟩ := draw_N (N := N42) w0 (fun z hz => g42 z (by omega)) (by rw [e42]) (show 1 ≤ 2 by omega) (show 2 < 2147483648 by omega)
  have t1 := w6.1
  have n40 : hE N40 b E := w4.mv (fun z hz => g40 z (by have := (t1 z hz).1; omega))
  have o40 : eOk N40 b E := ⟨by rw [b40, b39, bB, bA, b37]; exact w5.1, w5.2⟩
  have hx11 : tX11_init q N37 = some ((), NB) := by rw [tX11_init, iA, Option.bind_some, iB, Option.bind_some]
  have e43 : N43.2 = (M.2.1 + 1, M.2.2.1 + 8, M.2.2.2) := by rw [d3, e42]
  have w43 := d6 (M.2.1 + 1) (M.2.2.1 + 8) (by omega)
  have gy : (N43.1 y).1 = 101 ∧ 0 < (N43.1 y).2.1 := by
    obtain ⟨-, -, -, -, -, -, -, -, -, -, -, ⟨-, p2, p3, -⟩, -⟩ := w43
    exact ⟨p2, p3⟩
  rw [show (vp_V [.null, .int 0, .int 0, .int 0, .int 0, .int 0, .int 0, .int 0] : Nat → Value) = K0 from hK0.symm]
  show goodC KK n0 s0 x r b y u hz n clk ((nwO M 13 0 8 K0 n0 s0 128 2600).bind _)
  rw [e37, Option.bind_some, b37, if_pos ⟨by show M.2.1 + 1 + 0 ≤ n0 + 128; omega, by show M.2.2.1 + 8 + 0 ≤ s0 + 2600; omega⟩]
  show goodC KK n0 s0 x r b y u hz n clk ((tX11_init M.2.1 N37).bind _)
  rw [← hq, hx11, Option.bind_some, i39, Option.bind_some, i40, Option.bind_some, n40.I0 o40, Option.bind_some, i42, Option.bind_some, e42, if_pos ⟨by show M.2.1 + 1 + 0 ≤ n0 + 128; omega, by show M.2.2.1 + 8 + 0 ≤ s0 + 2600; omega⟩, show tL_draw y 2 N42 = tL_draw y (Int32.ofNat 2) N42 from rfl, d2, Option.bind_some]
  have fin : ∀ y1 : Int32, (y1 = 0 ∨ y1 = 1) → goodC KK n0 s0 x r b y u hz n clk (tL_changes_J262 Gs n0 s0 x b (Int32.ofNat j) (Int32.ofNat c) q q y1 N43) := fun y1 hy => by
    refine ch_open2 (M := M) (G := G) (F := F) (C := C) (a := a) (d := d) (k := k) (by
      have : (N43.1, N43.2.1, N43.2.2.1, N43.2.2.2) = (N43.1, M.2.1 + 1, M.2.2.1 + 8, M.2.2.2) := by rw [e43]
      rw [this]; exact w43) hc hj w1 w2 w3 w4 w5 w6 w7 w8 hq (fun z hz hy' => (d4 z hy').trans (g42 z (by omega))) gy ((d4 q (by omega)).trans a42) (by rw [e43]) (by rw [e43]) (by rw [e43]) ?_ ?_ ?_ ?_ ?_ ?_ ?_ hy z4 z5 h1 h2
    all_goals (simp [updV, hK0]; try rfl)
  split
  · exact fin 1 (.inr rfl)
  · exact fin 0 (.inl rfl)
end
