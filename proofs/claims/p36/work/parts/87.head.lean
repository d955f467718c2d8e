section
variable {KK : Nat → vOb} {M N : vMe} {x r b y u hz n k lo lw A p n0 s0 : Nat} {G F C E E2 : Nat → Nat → Value} {Gs : Nat → Nat} {l : List Nat}
theorem sbF (h : sbC M A p lw k l) : lw ≤ A ∧ lw ≤ p ∧ A < M.2.1 ∧ p < M.2.1 ∧ l.length ≤ k ∧ (M.1 A).1 = 2 := by
  obtain ⟨S, B, i1, i2, i3, i4, i5, i6, ⟨i8, i9, i10, i11, i12, i13⟩, i14⟩ := h
  exact ⟨i8, i9, i11, i12, i6.1, by rw [i1]⟩
theorem hb_str {q : Nat} {kk : List Nat} (sb : sbC M A p lw 16 l) (t : ∃ o, tAt M q o kk ∧ q < lw ∧ o < lw) (h : l.length + kk.length ≤ 16) : ∃ M2 p2, tJ4_append_15ec4 A q M = some (A, M2) ∧ sbC M2 A p2 lw 16 (l ++ kk) ∧ (∀ z, z < lw → M2.1 z = M.1 z) ∧ M.2.1 ≤ M2.2.1 ∧ M2.2.1 ≤ M.2.1 + 1 ∧ M2.2.2.1 ≤ M.2.2.1 + 250 ∧ M2.2.2.2 = M.2.2.2 := by
  obtain ⟨o, t1, t2, t3⟩ := t
  obtain ⟨f1, f2, f3, f4, f5, -⟩ := sbF sb
  obtain ⟨M2, p2, cap2, a1, a2, a3, ⟨a41, a42, a43, a44, a45⟩, a5⟩ := sb_str sb t1 ⟨⟨by omega, by omega⟩, ⟨by omega, by omega⟩, by omega, by omega⟩ (.inl h) (by omega)
  have e : cap2 = 16 := by omega
  rw [e] at a2
  exact ⟨M2, p2, a1, a2, fun z hz => a41 z (by omega) (by omega) (by omega), a42, a43, a44, a45⟩
theorem hb_int {v : Nat} (sb : sbC M A p lw 16 l) (dg : dgs M Gs lw) (hv : v ≤ 64) (h : l.length + 2 ≤ 16) : ∃ M2 p2, tJ4_append_bf812 Gs A (Int32.ofNat v) M = some (A, M2) ∧ sbC M2 A p2 lw 16 (l ++ dec v) ∧ (∀ z, z < lw → M2.1 z = M.1 z) ∧ M.2.1 ≤ M2.2.1 ∧ M2.2.1 ≤ M.2.1 + 1 ∧ M2.2.2.1 ≤ M.2.2.1 + 250 ∧ M2.2.2.2 = M.2.2.2 := by
  obtain ⟨f1, f2, f3, f4, f5, -⟩ := sbF sb
  have dl : (dec v).length ≤ 2 ∧ 1 ≤ (dec v).length := by rw [dec_len]; split <;> omega
  obtain ⟨M2, p2, cap2, a1, a2, a3, ⟨a41, a42, a43, a44, a45⟩, a5⟩ := sb_int sb dg hv (.inl (by omega)) (by omega)
  have e : cap2 = 16 := by omega
  rw [e] at a2
  exact ⟨M2, p2, a1, a2, fun z hz => a41 z (by omega) (by omega) (by omega), a42, a43, a44, a45⟩
theorem dgs_lt (h : dgs N Gs lo) (hl : lo ≤ lw) (e : ∀ z, z < lo → M.1 z = N.1 z) : dgs M Gs lw := by
  obtain ⟨⟨q1, q2⟩, D1, D2, d1, d2, d3⟩ := h
  exact ⟨⟨by omega, by omega⟩, D1, D2, (e _ q1).trans d1, (e _ q2).trans d2, d3⟩
theorem sOk_lt {q : Nat} {kk : List Nat} (h : sOk N b lo y E q kk) (hl : lo ≤ lw) (e : ∀ z, z < lo → M.1 z = N.1 z) : ∃ o, tAt M q o kk ∧ q < lw ∧ o < lw := by
  obtain ⟨o, h1, ⟨h2, -, -⟩, h5, -, -⟩ := h
  exact ⟨o, h1.same (e q h2) (e o h5), by omega, by omega⟩
/-- the head of the text -/
def hdT (u hz : Nat) : List Nat := [115, 101, 116, 115, 32] ++ dec u ++ [32] ++ dec hz ++ [59]
theorem hdT_len (hu : u ≤ 64) (hh : hz ≤ 64) : 9 ≤ (hdT u hz).length ∧ (hdT u hz).length ≤ 11 := by
  unfold hdT
  have a : ∀ v, (dec v).length ≤ 2 ∧ 1 ≤ (dec v).length := fun v => by rw [dec_len]; split <;> omega
  have := a u
  have := a hz
  simp only [List.length_append, List.length_cons, List.length_nil]
  omega
theorem txT_eq {scr : List (Bool × Nat × List Nat × Bool)} : hdT u hz ++ setsT n 0 ++ scrT scr = txT u hz n scr := by
  unfold hdT txT; simp
set_option maxRecDepth 20000 in
/-- the law writes the head of the text -/
theorem hd_P (w : CW KK (cut N lo) x r b y E) (st : stK KK x Gs) (hl : N.2.1 = lo) (hu : u ≤ 64) (hh : hz ≤ 64) (e1 : gt E 0 1 = Int32.ofNat u) (e2 : gt E 0 2 = Int32.ofNat hz) (h1 : N.2.1 + 3000 ≤ n0 + 4000) (h2 : N.2.2.1 + 100000 ≤ s0 + 200000) :
    ∃ N2 p2, sbC N2 lo p2 lo ((hdT u hz).length + 16) (hdT u hz) ∧ (∀ z, z < lo → N2.1 z = N.1 z) ∧ lo ≤ N2.2.1 ∧ N2.2.1 ≤ N.2.1 + 14 ∧ N2.2.2.1 ≤ N.2.2.1 + 1700 ∧ N2.2.2.2 = N.2.2.2 ∧ ∀ K : vMe → Option (Int32 × vMe), ((nwO N 2 0 4 (vp_V [.null, .int 0, .int 0, .int 0]) n0 s0 4000 200000).bind fun M13 =>
  (nwO M13 2 0 4 (vp_V [.null, .int 0, .int 0, .int 0]) n0 s0 4000 200000).bind fun M14 =>
  if M14.2.1 + 1 ≤ n0 + 4000 ∧ M14.2.2.1 + 16 ≤ s0 + 200000 then
  ((tJ4_init_da8c8 M13.2.1 M14).bind fun z15 =>
  if z15.2.2.1 + 1 ≤ n0 + 4000 ∧ z15.2.2.2.1 + 250 ≤ s0 + 200000 then
  (if (z15.2.1 M13.2.1).1 = 2 then
  ((tJ4_append_15ec4 M13.2.1 (Gs 6) z15.2).bind fun z16 =>
  (gI z16.2 b 14 1).bind fun v17 =>
  if z16.2.2.1 + 1 ≤ n0 + 4000 ∧ z16.2.2.2.1 + 250 ≤ s0 + 200000 then
  (if (z16.2.1 z16.1).1 = 2 then
  ((tJ4_append_bf812 Gs z16.1 v17 z16.2).bind fun z18 =>
  if z18.2.2.1 + 1 ≤ n0 + 4000 ∧ z18.2.2.2.1 + 250 ≤ s0 + 200000 then
  (if (z18.2.1 z18.1).1 = 2 then
  ((tJ4_append_15ec4 z18.1 (Gs 11) z18.2).bind fun z19 =>
  (gI z19.2 b 14 2).bind fun v20 =>
  if z19.2.2.1 + 1 ≤ n0 + 4000 ∧ z19.2.2.2.1 + 250 ≤ s0 + 200000 then
  (if (z19.2.1 z19.1).1 = 2 then
  ((tJ4_append_bf812 Gs z19.1 v20 z19.2).bind fun z21 =>
  if z21.2.2.1 + 1 ≤ n0 + 4000 ∧ z21.2.2.2.1 + 250 ≤ s0 + 200000 then
  (if (z21.2.1 z21.1).1 = 2 then
  ((tJ4_append_15ec4 z21.1 (Gs 20) z21.2).bind fun z22 =>
  if z22.2.2.1 + 2 ≤ n0 + 4000 ∧ z22.2.2.2.1 + 254 ≤ s0 + 200000 then
  (if (z22.2.1 z22.1).1 = 2 then
  ((tJ4_toString_0e30d z22.1 z22.2).bind fun z23 =>
  if z23.2.2.1 + 2 ≤ n0 + 4000 ∧ z23.2.2.2.1 + 300 ≤ s0 + 200000 then
  ((tJ4_init_a7421 N.2.1 z23.1 z23.2).bind fun z24 => K z24.2)
else none)
else none)
else none)
else none)
else none)
else none)
else none)
else none)
else none)
else none)
else none)
else none)
else none)
else none) = K N2 := by
  obtain ⟨he, ho, hA, hy, hb, hny⟩ := CW_h w
  have hb : N.2.2.2 ≤ lo := hb
  obtain ⟨s1, s2, ⟨s6, s11, s20, -⟩, -⟩ := st
  obtain ⟨dg, -⟩ := dK_ok w s2
  have t6 := sK_ok w s6
  have t11 := sK_ok w s11
  have t20 := sK_ok w s20
  obtain ⟨V, hV⟩ : ∃ V : Nat → Value, V = vp_V [.null, .int 0, .int 0, .int 0] := ⟨_, rfl⟩
  obtain ⟨M13, h13⟩ : ∃ M13, M13 = nw N 2 0 4 V := ⟨_, rfl⟩
  obtain ⟨M14, h14⟩ : ∃ M14, M14 = nw M13 2 0 4 V := ⟨_, rfl⟩
  have a1 : M13.2.1 = lo + 1 := by rw [h13]; show N.2.1 + 1 = _; omega
  have a2 : M13.2.2.1 = N.2.2.1 + 4 := by rw [h13]; rfl
  have a3 : M13.2.2.2 = N.2.2.2 := by rw [h13]; rfl
  have b1 : M14.2.1 = lo + 2 := by rw [h14]; show M13.2.1 + 1 = _; omega
  have b2 : M14.2.2.1 = N.2.2.1 + 8 := by rw [h14]; show M13.2.2.1 + 4 = _; omega
  have b3 : M14.2.2.2 = N.2.2.2 := by rw [h14]; exact a3
  have f14 : ∀ z, z < lo → M14.1 z = N.1 z := fun z hz => by rw [h14, ng_ne (by omega), h13, ng_ne (by omega)]
  have c0 : M14.1 lo = (2, 0, V) := by rw [h14, ng_ne (by omega), h13, ng_at (by omega)]
  have c1 : M14.1 (lo + 1) = (2, 0, V) := by rw [h14, ng_at (by omega)]
  rw [hV] at c1
  obtain ⟨W1, i1, i2, i3, i4⟩ := sb_new (A := lo + 1) (lo := lo + 1) c1 (Nat.le_refl _) (by omega) (by omega)
  have j1 : W1.2.1 = lo + 3 := by rw [i4]; show M14.2.1 + 1 = _; omega
  have j2 : W1.2.2.1 = N.2.2.1 + 24 := by rw [i4]; show M14.2.2.1 + 16 = _; omega
  have j3 : W1.2.2.2 = N.2.2.2 := by rw [i4]; exact b3
  have fW1 : ∀ z, z < lo + 1 → W1.1 z = M14.1 z := fun z hz => i3 z (by omega) (by omega)
  have gW1 : ∀ z, z < lo → W1.1 z = N.1 z := fun z hz => (fW1 z (by omega)).trans (f14 z hz)
  obtain ⟨W2, p2, k1, k2, k3, k4, k5, k6, k7⟩ := hb_str i2 (sOk_lt t6 (by omega) gW1) (by show 0 + 5 ≤ 16; omega)
  have gW2 : ∀ z, z < lo → W2.1 z = N.1 z := fun z hz => (k3 z (by omega)).trans (gW1 z hz)
  have he2 : hE W2 b E := he.mv (fun q hq => gW2 q (hA q hq))
  have ho2 : eOk W2 b E := ⟨by rw [k7, j3]; exact ho.1, ho.2⟩
  obtain ⟨W3, p3, l1, l2, l3, l4, l5, l6, l7⟩ := hb_int (v := u) k2 (dgs_lt dg (by omega) gW2) hu (by show 5 + 2 ≤ 16; omega)
  have gW3 : ∀ z, z < lo → W3.1 z = N.1 z := fun z hz => (l3 z (by omega)).trans (gW2 z hz)
  have du : (dec u).length ≤ 2 ∧ 1 ≤ (dec u).length := by rw [dec_len]; split <;> omega
  have dh : (dec hz).length ≤ 2 ∧ 1 ≤ (dec hz).length := by rw [dec_len]; split <;> omega
  have n3 : ([] ++ [115, 101, 116, 115, 32] ++ dec u : List Nat).length = 5 + (dec u).length := by rw [List.length_append]; rfl
  obtain ⟨W4, p4, m1, m2, m3, m4, m5, m6, m7⟩ := hb_str l2 (sOk_lt t11 (by omega) gW3) (by rw [n3]; show 5 + (dec u).length + 1 ≤ 16; omega)
  have gW4 : ∀ z, z < lo → W4.1 z = N.1 z := fun z hz => (m3 z (by omega)).trans (gW3 z hz)
  have n4 : ([] ++ [115, 101, 116, 115, 32] ++ dec u ++ [32] : List Nat).length = 6 + (dec u).length := by rw [List.length_append, n3]; show 5 + (dec u).length + 1 = _; omega
  have he4 : hE W4 b E := he.mv (fun q hq => gW4 q (hA q hq))
  have ho4 : eOk W4 b E := ⟨by rw [m7, l7, k7, j3]; exact ho.1, ho.2⟩
  obtain ⟨W5, p5, q1, q2, q3, q4, q5, q6, q7⟩ := hb_int (v := hz) m2 (dgs_lt dg (by omega) gW4) hh (by rw [n4]; omega)
  have gW5 : ∀ z, z < lo → W5.1 z = N.1 z := fun z hz => (q3 z (by omega)).trans (gW4 z hz)
  have n5 : ([] ++ [115, 101, 116, 115, 32] ++ dec u ++ [32] ++ dec hz : List Nat).length = 6 + (dec u).length + (dec hz).length := by rw [List.length_append, n4]
  obtain ⟨W6, p6, r1, r2, r3, r4, r5, r6, r7⟩ := hb_str q2 (sOk_lt t20 (by omega) gW5) (by rw [n5]; show 6 + (dec u).length + (dec hz).length + 1 ≤ 16; omega)
  have gW6 : ∀ z, z < lo → W6.1 z = N.1 z := fun z hz => (r3 z (by omega)).trans (gW5 z hz)
  have eH : ([] ++ [115, 101, 116, 115, 32] ++ dec u ++ [32] ++ dec hz ++ [59] : List Nat) = hdT u hz := by unfold hdT; simp
  rw [eH] at r2
  have hH := hdT_len hu hh
  obtain ⟨Z, v1, v2, v3, v4⟩ := sb_toS r2 (by omega)
  have z1 : Z.2.1 = W6.2.1 + 2 := by rw [v4]
  have z2 : Z.2.2.1 = W6.2.2.1 + 4 + (hdT u hz).length := by rw [v4]
  have z3 : Z.2.2.2 = W6.2.2.2 := by rw [v4]
  have cZ : Z.1 lo = (2, 0, V) := by rw [v3 lo (by omega), r3 lo (by omega), q3 lo (by omega), m3 lo (by omega), l3 lo (by omega), k3 lo (by omega), fW1 lo (by omega)]; exact c0
  rw [hV] at cZ
  obtain ⟨W8, p8, x1, x2, x3, x4, x5, x6, x7, x8⟩ := sb_init (lo := lo) cZ (Nat.le_refl _) (by omega) (by omega) v2 ⟨⟨by omega, by omega⟩, by omega, by omega⟩ (by omega)
  refine ⟨W8, p8, x2, fun z hz => by rw [x4 z (by omega) (by omega), v3 z (by omega), gW6 z hz], by omega, by omega, by omega, by omega, fun K => ?_⟩
  have nn1 : nwO N 2 0 4 V n0 s0 4000 200000 = some M13 := by unfold nwO; rw [if_pos ⟨by omega, by omega, by omega⟩, h13]
  have nn2 : nwO M13 2 0 4 V n0 s0 4000 200000 = some M14 := by unfold nwO; rw [if_pos ⟨by omega, by omega, by omega⟩, h14]
  rw [← hV, nn1, Option.bind_some, nn2, Option.bind_some, if_pos ⟨by omega, by omega⟩, a1, i1, Option.bind_some]
  dsimp only
  rw [if_pos ⟨by omega, by omega⟩, if_pos (sbF i2).2.2.2.2.2, k1, Option.bind_some]
  dsimp only
  rw [he2.I0 ho2, Option.bind_some, e1, if_pos ⟨by omega, by omega⟩, if_pos (sbF k2).2.2.2.2.2, l1, Option.bind_some]
  dsimp only
  rw [if_pos ⟨by omega, by omega⟩, if_pos (sbF l2).2.2.2.2.2, m1, Option.bind_some]
  dsimp only
  rw [he4.I0 ho4, Option.bind_some, e2, if_pos ⟨by omega, by omega⟩, if_pos (sbF m2).2.2.2.2.2, q1, Option.bind_some]
  dsimp only
  rw [if_pos ⟨by omega, by omega⟩, if_pos (sbF q2).2.2.2.2.2, r1, Option.bind_some]
  dsimp only
  rw [if_pos ⟨by omega, by omega⟩, if_pos (sbF r2).2.2.2.2.2, v1, Option.bind_some]
  dsimp only
  rw [if_pos ⟨by omega, by omega⟩, hl, x1, Option.bind_some]
end
