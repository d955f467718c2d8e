section
variable {M : vMe} {x r a d b : Nat} {G F C E : Nat → Nat → Value} {u hz n k : Nat}
theorem bk_txt {G2 : Nat → Nat → Value} (g0 : ∀ i, i ≠ 0 → i ≠ 1 → i ≠ 2 → G2 i = G i) (g00 : ∀ l, l ≠ 5 → G2 0 l = G 0 l) (i : Nat) : bkG G2 i = bkG G i := by
  unfold bkG; rw [g00 3 (by omega), g00 4 (by omega), g0 4 (by omega) (by omega) (by omega), g0 6 (by omega) (by omega) (by omega)]
theorem own_txt {G2 : Nat → Nat → Value} (g0 : ∀ i, i ≠ 0 → i ≠ 1 → i ≠ 2 → G2 i = G i) (g00 : ∀ l, l ≠ 5 → G2 0 l = G 0 l) (q : Nat) : own x r G2 q ↔ own x r G q := by
  unfold own; simp only [bk_txt g0 g00]
/-- the text, the draft and what lies outside have changed -/
theorem simD_txt {M2 : vMe} {G2 F2 : Nat → Nat → Value} (h : simD M x r G F a d C u hz n k) (g0 : ∀ i, i ≠ 0 → i ≠ 1 → i ≠ 2 → G2 i = G i) (g00 : ∀ l, l ≠ 5 → G2 0 l = G 0 l) (g10 : G2 1 0 = G 1 0) (hG2 : hG M2 x G2) (hR2 : hR M2 r F2) (rO : rOk M2 r F2) (hb : M2.2.2.2 = M.2.2.2) (hm : M.2.1 ≤ M2.2.1)
    (ob : ∀ i b E, i < 14 → i ≠ 1 → bkG G i = some b → x + 8 ≤ b → b + 50 ≤ M.2.1 → (b + 50 ≤ r ∨ r + 12 ≤ b) → hB M b E → hB M2 b E) (hd : ∃ E, hB M2 d E ∧ cOk M d E) (tx : ∀ q, ¬ own x r G q → q < M.2.1 → M2.1 q = M.1 q)
    (eL : ∃ len, len ≤ 600 ∧ gt G2 1 1 = Int32.ofNat len ∧ gt F2 0 4 = Int32.ofNat len) (eB : ∀ i, i < 600 → gt G2 2 i = gt F2 3 i) (eE : gt G2 0 5 = gt F2 0 12) (e18 : gt F2 0 18 = gt F 0 18) (eR : ∀ i, i = 1 ∨ i = 2 ∨ i = 7 ∨ i = 8 ∨ i = 9 → F2 i = F i) : simD M2 x r G2 F2 a d C u hz n k := by
  obtain ⟨⟨a1, a2, a3, a4, a5, a6⟩, ⟨b1, b2, b3, b4⟩, c1, d1, ⟨f1, f2, f3, f4⟩, -, -, -, ⟨nx, cnt, j1, j2, j3, j4, j5, j6⟩, l1⟩ := h
  have ka := bk0 b1
  have bkr : ∀ i, bkG G2 i = bkG G i := bk_txt g0 g00
  have sb : ∀ i b E, i < 14 → i ≠ 1 → bkG G i = some b → hB M b E → hB M2 b E := fun i b E hi h0 hbk hE => by
    obtain ⟨q1, q2, q3⟩ := (c1 i b hi hbk).1
    exact ob i b E hi h0 hbk q1 q2 q3 hE
  have nm : ∀ E, simNm M x r G E F 2 n → simNm M2 x r G2 E F2 2 n := fun E hE s hs => by
    obtain ⟨q, l, q1, ⟨p, p1, p2, p3, p4, p5⟩, q3, q4⟩ := hE s hs
    exact ⟨q, l, q1, ⟨p, p1.same (tx q p2 p4) (tx p p3 p5), fun g => p2 ((own_txt g0 g00 q).mp g), fun g => p3 ((own_txt g0 g00 p).mp g), Nat.lt_of_lt_of_le p4 hm, Nat.lt_of_lt_of_le p5 hm⟩, q3, by rw [eR 2 (by omega)]; exact q4⟩
  have cOm : ∀ b E, cOk M b E → cOk M2 b E := fun b E hE => ⟨by rw [hb]; exact hE.1, hE.2⟩
  have gO2 : gOk M2 x G2 := ⟨by rw [hb]; exact a2.1, by rw [g00 _ (by omega)]; exact a2.2.1, by rw [g00 _ (by omega)]; exact a2.2.2.1, by rw [g00 _ (by omega)]; exact a2.2.2.2.1, by rw [g10]; exact a2.2.2.2.2.1, by rw [g0 _ (by omega) (by omega) (by omega)]; exact a2.2.2.2.2.2.1, by rw [g0 _ (by omega) (by omega) (by omega)]; exact a2.2.2.2.2.2.2.1, by rw [g0 _ (by omega) (by omega) (by omega)]; exact a2.2.2.2.2.2.2.2⟩
  refine ⟨⟨hG2, gO2, hR2, rO, a5, by omega⟩, ⟨by rw [g00 _ (by omega)]; exact b1, by rw [g00 _ (by omega)]; exact b2, fun i hi => by rw [g0 4 (by omega) (by omega) (by omega)]; exact b3 i hi, fun i hi => by rw [g0 6 (by omega) (by omega) (by omega)]; exact b4 i hi⟩, fun i b hi hbk => ?_, fun i j b c hi hj hij hx1 hx2 => d1 i j b c hi hj hij (by rw [← bkr]; exact hx1) (by rw [← bkr]; exact hx2), ⟨sb 0 a C (by omega) (by omega) ka f1, cOm _ _ f2, simP_row f3 (fun l _ => by rw [gt_row (eR 1 (by omega))]), nm C f4⟩, eL, eB, eE, ⟨nx, cnt, j1, j2, by rw [gt_row (g0 3 (by omega) (by omega) (by omega))]; exact j3, by rw [gt_row (g0 3 (by omega) (by omega) (by omega))]; exact j4, by rw [e18]; exact j5, fun i hi => ?_⟩, fun j hj => ?_⟩
  · rw [bkr] at hbk
    obtain ⟨⟨q1, q2, q3⟩, E, q4, q5⟩ := c1 i b hi hbk
    refine ⟨⟨q1, by omega, q3⟩, ?_⟩
    by_cases e : i = 1
    · subst e
      cases Option.some.inj ((bk1 b2).symm.trans hbk)
      obtain ⟨E', p1, p2⟩ := hd
      exact ⟨E', p1, cOm _ _ p2⟩
    · exact ⟨E, sb i b E hi e hbk q4, cOm _ _ q5⟩
  · obtain ⟨b, E, k', q1, q2, q3, q4⟩ := j6 i hi
    have hlt : (nx + 10 - cnt + i) % 10 < 10 := Nat.mod_lt _ (by omega)
    exact ⟨b, E, k', by rw [g0 4 (by omega) (by omega) (by omega)]; exact q1, sb _ b E (by omega) (by omega) (bk2 hlt q1) q2, simP_row q3 (fun l _ => by rw [gt_rw, gt_rw, gt_row (eR 7 (by omega))]), nm E q4⟩
  · rcases l1 j hj with ⟨q1, q2⟩ | ⟨q1, q2, b, E, k', q3, q4, q5, q6⟩
    · exact .inl ⟨by rw [gt_row (g0 7 (by omega) (by omega) (by omega))]; exact q1, by rw [gt_row (eR 9 (by omega))]; exact q2⟩
    · exact .inr ⟨by rw [gt_row (g0 7 (by omega) (by omega) (by omega))]; exact q1, by rw [gt_row (eR 9 (by omega))]; exact q2, b, E, k', by rw [g0 6 (by omega) (by omega) (by omega)]; exact q3, sb _ b E (by omega) (by omega) (bk3 q3) q4, simP_row q5 (fun l _ => by rw [gt_rw, gt_rw, gt_row (eR 8 (by omega))]), nm E q6⟩
/-! append -/
theorem g_t1 : gI (gv M x G) (x + 1) 4 1 = some (gt G 1 1) := g_gI (i := 1) (by omega) rfl
theorem g_t0 (gO : gOk M x G) : gA (gv M x G) (x + 1) 4 0 = some (x + 2) := g_gA (i := 1) (by omega) rfl gO.2.2.2.2.1
theorem g_ts {v : Value} (gO : gOk M x G) : sV (gv M x G) (x + 1) 4 1 v = some (gv M x (pu G 1 1 v)) := g_sV (i := 1) gO.1 (by omega) rfl
theorem g_tS {i : Nat} {v : Value} (gO : gOk M x G) (hi : i < 600) : sA (gv M x G) (x + 2) 102 (Int32.ofNat i) v = some (gv M x (pu G 2 i v)) := g_sA (i := 2) (len := 600) gO.1 (by omega) rfl hi (by omega)
theorem g_tI {i : Nat} (hi : i < 600) : aI (gv M x G) (x + 2) 102 (Int32.ofNat i) = some (gt G 2 i) := g_aI (i := 2) (len := 600) (by omega) rfl hi (by omega)
theorem g_x0 (gO : gOk M x G) : gA (gv M x G) x 11 0 = some (x + 1) := g_gA (i := 0) (by omega) rfl gO.2.1
theorem r_tS {i : Nat} {v : Value} (h : rOk M r F) (hi : i < 600) : sA (rv M r F) (r + 3) 102 (Int32.ofNat i) v = some (rv M r (pu F 3 i v)) := r_sA (i := 3) v h (by decide) rfl hi
theorem r_tI {i : Nat} (hi : i < 600) : aI (rv M r F) (r + 3) 102 (Int32.ofNat i) = some (gt F 3 i) := by
  simp only [aI, rv_at M r 3 F (by omega), show rTag 3 = 102 from rfl, show rLen 3 = 600 from rfl, n_clamp (show i < 2147483648 by omega), n_neg (show i < 2147483648 by omega), gt]
  simp [hi]
def txI (G F : Nat → Nat → Value) (len : Nat) : Prop := gt G 1 1 = Int32.ofNat len ∧ gt F 0 4 = Int32.ofNat len ∧ ∀ i, i < 600 → gt G 2 i = gt F 3 i
def fG (G G2 : Nat → Nat → Value) : Prop := (∀ i, i ≠ 1 → i ≠ 2 → G2 i = G i) ∧ G2 1 0 = G 1 0
def fFt (F F2 : Nat → Nat → Value) : Prop := (∀ i, i ≠ 0 → i ≠ 3 → F2 i = F i) ∧ ∀ l, l ≠ 4 → F2 0 l = F 0 l
theorem fG.tr {G1 G2 : Nat → Nat → Value} (h : fG G G1) (g : fG G1 G2) : fG G G2 := ⟨fun i h1 h2 => by rw [g.1 i h1 h2, h.1 i h1 h2], by rw [g.2, h.2]⟩
theorem fFt.tr {F1 F2 : Nat → Nat → Value} (h : fFt F F1) (g : fFt F1 F2) : fFt F F2 := ⟨fun i h1 h2 => by rw [g.1 i h1 h2, h.1 i h1 h2], fun l hl => by rw [g.2 l hl, h.2 l hl]⟩
theorem fG.ok {G2 : Nat → Nat → Value} (h : fG G G2) (g : gOk M x G) : gOk M x G2 := ⟨g.1, by rw [h.1 _ (by omega) (by omega)]; exact g.2.1, by rw [h.1 _ (by omega) (by omega)]; exact g.2.2.1, by rw [h.1 _ (by omega) (by omega)]; exact g.2.2.2.1, by rw [h.2]; exact g.2.2.2.2.1, by rw [h.1 _ (by omega) (by omega)]; exact g.2.2.2.2.2.1, by rw [h.1 _ (by omega) (by omega)]; exact g.2.2.2.2.2.2.1, by rw [h.1 _ (by omega) (by omega)]; exact g.2.2.2.2.2.2.2⟩
theorem fFt.ok {M' : vMe} {F2 : Nat → Nat → Value} (h : fFt F F2) (g : rOk M' r F) : rOk M' r F2 := ⟨g.1, fun i h1 h2 => by rw [h.2 _ (by unfold rFld; split <;> omega)]; exact g.2 i h1 h2⟩
theorem tk_P {len : Nat} {w x2 : Int32} (h : txI G F len) (hl : len < 600) (h2 : ¬ x2 < 0) : ∃ G2 F2, txI G2 F2 (len + 1) ∧ fG G G2 ∧ fFt F F2 ∧
    (∀ M f, gOk M x G → tX1_takeFourBytes_L3 (x + 1) w (f + 1) x2 (gv M x G) = tX1_takeFourBytes_L3 (x + 1) w f (x2 + (-8)) (gv M x G2)) ∧
    ∀ M f, rOk M r F → tX10_bytesOf_L3 r w (f + 1) x2 (rv M r F) = tX10_bytesOf_L3 r w f (x2 + (-8)) (rv M r F2) := by
  obtain ⟨v, hv⟩ : ∃ v : Int32, v = ((w >>> (x2 &&& 31)).toInt8.toInt32).toInt8.toInt32 := ⟨_, rfl⟩
  refine ⟨pu (pu G 2 len (.int v)) 1 1 (.int (Int32.ofNat (len + 1))), pu (pu F 3 len (.int v)) 0 4 (.int (Int32.ofNat (len + 1))), ⟨gt_eq _ _ _, gt_eq _ _ _, fun i hi => ?_⟩, ⟨fun i i1 i2 => by rw [pu_o i1, pu_o i2], by rw [pu_ne (by omega), pu_ne (by omega)]⟩, ⟨fun i i1 i2 => by rw [pu_o i1, pu_o i2], fun l hl => by rw [pu_ne (by omega), pu_ne (by omega)]⟩, fun M f gO => ?_, fun M f hr => ?_⟩
  · have m1 : gt (pu (pu G 2 len (.int v)) 1 1 (.int (Int32.ofNat (len + 1)))) 2 i = gt (pu G 2 len (.int v)) 2 i := gt_ne (by omega)
    have m2 : gt (pu (pu F 3 len (.int v)) 0 4 (.int (Int32.ofNat (len + 1)))) 3 i = gt (pu F 3 len (.int v)) 3 i := gt_ne (by omega)
    rw [m1, m2]
    by_cases e : i = len
    · rw [e, gt_eq, gt_eq]
    · have m3 : gt (pu G 2 len (.int v)) 2 i = gt G 2 i := gt_ne (by omega)
      have m4 : gt (pu F 3 len (.int v)) 3 i = gt F 3 i := gt_ne (by omega)
      rw [m3, m4]; exact h.2.2 i hi
  · have gO1 : gOk M x (pu G 2 len (.int v)) := fG.ok ⟨fun i i1 i2 => pu_o i2, pu_ne (by omega)⟩ gO
    rw [tX1_takeFourBytes_L3, if_neg h2, g_t1, Option.bind_some, h.1, if_neg (fun g => by have := (n_le (a := 600) (by omega) (by omega)).mp g; omega), g_t0 gO, Option.bind_some, Option.bind_some, ← hv, g_tS gO hl, Option.bind_some, g_t1, Option.bind_some, gt_ne (by omega), h.1, n_succ, g_ts gO1, Option.bind_some]
  · have hr1 : rOk M r (pu F 3 len (.int v)) := pu_ok hr (.inl (by omega))
    rw [tX10_bytesOf_L3, if_neg h2, rA3 hr, Option.bind_some, r_gI, Option.bind_some, h.2.1, ← hv, r_tS hr hl, Option.bind_some, r_gI, Option.bind_some, gt_ne (by omega), h.2.1, n_succ, r_sV _ hr1, Option.bind_some]
theorem four_P {len : Nat} (w : Int32) (h : txI G F len) (hl : len + 4 ≤ 600) : ∃ G2 F2, txI G2 F2 (len + 4) ∧ fG G G2 ∧ fFt F F2 ∧
    (∀ M, gOk M x G → tX1_takeFourBytes (x + 1) w (gv M x G) = some ((), gv M x G2)) ∧ ∀ M, rOk M r F → tX10_bytesOf r w (rv M r F) = some ((), rv M r F2) := by
  obtain ⟨f, hf⟩ : ∃ f, vF = f + 5 := ⟨vF - 5, by unfold vF; omega⟩
  obtain ⟨G1, F1, a1, b1, c1, d1, e1⟩ := tk_P (x := x) (r := r) (w := w) (x2 := 24) h (by omega) (by decide)
  obtain ⟨G2, F2, a2, b2, c2, d2, e2⟩ := tk_P (x := x) (r := r) (w := w) (x2 := 16) a1 (by omega) (by decide)
  obtain ⟨G3, F3, a3, b3, c3, d3, e3⟩ := tk_P (x := x) (r := r) (w := w) (x2 := 8) a2 (by omega) (by decide)
  obtain ⟨G4, F4, a4, b4, c4, d4, e4⟩ := tk_P (x := x) (r := r) (w := w) (x2 := 0) a3 (by omega) (by decide)
  refine ⟨G4, F4, a4, b1.tr (b2.tr (b3.tr b4)), c1.tr (c2.tr (c3.tr c4)), fun M gO => ?_, fun M hr => ?_⟩
  · have o1 := b1.ok gO
    have o2 := b2.ok o1
    have o3 := b3.ok o2
    rw [tX1_takeFourBytes, hf, d1 M _ gO, show (24 : Int32) + (-8) = 16 by decide, d2 M _ o1, show (16 : Int32) + (-8) = 8 by decide, d3 M _ o2, show (8 : Int32) + (-8) = 0 by decide, d4 M _ o3, tX1_takeFourBytes_L3, if_pos (by decide), Option.bind_some]
  · have o1 := c1.ok hr
    have o2 := c2.ok o1
    have o3 := c3.ok o2
    rw [tX10_bytesOf, hf, e1 M _ hr, show (24 : Int32) + (-8) = 16 by decide, e2 M _ o1, show (16 : Int32) + (-8) = 8 by decide, e3 M _ o2, show (8 : Int32) + (-8) = 0 by decide, e4 M _ o3, tX10_bytesOf_L3, if_pos (by decide), Option.bind_some]
/-- append -/
theorem O_append (h : simD M x r G F a d C u hz n k) (v1 v2 v3 v4 v5 : Int32) : opR x r M ((tX9_append x v1 v2 v3 v4 v5 M).bind fun z => some (Sum.inl z.1, z.2)) (fun M' => tX10_append r v1 v2 v3 v4 v5 M') mp0 := by
  obtain ⟨⟨a1, a2, a3, a4, a5, a6⟩, ⟨b1, b2, b3, b4⟩, c1, d1, -, ⟨len, g1, g2, g3⟩, gby, i1, -, -⟩ := id h
  have q0 : gA M x 11 0 = some (x + 1) := by rw [← a1.eq]; exact g_gA (i := 0) (by omega) rfl a2.2.1
  have q1 : gI M (x + 1) 4 1 = some (Int32.ofNat len) := by rw [← a1.eq, g_t1, g2]
  have cmp : (Int32.ofNat len + 20 ≤ (600 : Int32)) ↔ len + 20 ≤ 600 := by
    rw [show (20 : Int32) = Int32.ofNat 20 from rfl, n_add, show (600 : Int32) = Int32.ofNat 600 from rfl]; exact n_le (by omega) (by omega)
  by_cases hl : len + 20 ≤ 600
  · have t0 : txI G (Fth F 0) len := ⟨g2, by rw [Fth_gt (.inr (by omega))]; exact g3, fun i hi => by rw [Fth_gt (.inl (by omega))]; exact gby i hi⟩
    obtain ⟨G1, F1, p1, k1, w1, y1, z1⟩ := four_P (x := x) (r := r) v1 t0 (by omega)
    obtain ⟨G2, F2, p2, k2, w2, y2, z2⟩ := four_P (x := x) (r := r) v2 p1 (by omega)
    obtain ⟨G3, F3, p3, k3, w3, y3, z3⟩ := four_P (x := x) (r := r) v3 p2 (by omega)
    obtain ⟨G4, F4, p4, k4, w4, y4, z4⟩ := four_P (x := x) (r := r) v4 p3 (by omega)
    obtain ⟨G5, F5, p5, k5, w5, y5, z5⟩ := four_P (x := x) (r := r) v5 p4 (by omega)
    have o1 := k1.ok a2
    have o2 := k2.ok o1
    have o3 := k3.ok o2
    have o4 := k4.ok o3
    have o5 := k5.ok o4
    have tg : ∀ G', ((gv M x G').1 (x + 1)).1 = 4 := fun G' => by rw [gv_at 1 (by omega)]; rfl
    have gx : ∀ G', gOk M x G' → gA (gv M x G') x 11 0 = some (x + 1) := fun G' o => g_gA (i := 0) (by omega) rfl o.2.1
    have Y1 := y1 M a2
    rw [a1.eq] at Y1
    refine opR_chg (w0 := 0) (Mc := gv M x G5) (v := Int32.ofNat (len + 4 + 4 + 4 + 4 + 4)) ?_ rfl (Nat.le_refl _) (fun q hq => by rw [gv_out (by omega)]) a5 (a3.gv (.inl a5)) a4 (fun N9 hs => ?_)
    · rw [tX9_append, q0, Option.bind_some, q1, Option.bind_some, if_pos (cmp.mpr hl), Option.bind_some, if_pos (T_in a1), Y1, Option.bind_some]
      show ((((gA (gv M x G1) x 11 0).bind _)).bind _) = _
      rw [gx G1 o1, Option.bind_some, if_pos (tg G1), y2 M o1, Option.bind_some]
      show ((((gA (gv M x G2) x 11 0).bind _)).bind _) = _
      rw [gx G2 o2, Option.bind_some, if_pos (tg G2), y3 M o2, Option.bind_some]
      show ((((gA (gv M x G3) x 11 0).bind _)).bind _) = _
      rw [gx G3 o3, Option.bind_some, if_pos (tg G3), y4 M o3, Option.bind_some]
      show ((((gA (gv M x G4) x 11 0).bind _)).bind _) = _
      rw [gx G4 o4, Option.bind_some, if_pos (tg G4), y5 M o4, Option.bind_some]
      show ((((gA (gv M x G5) x 11 0).bind _)).bind _) = _
      rw [gx G5 o5, Option.bind_some, g_t1, Option.bind_some, p5.1, Option.bind_some]
    · have rM : rOk N9 r F := hs.ok (M := gv M x G5) a4
      have r0 := Fth_ok (c := 0) rM
      have r1 := w1.ok r0
      have r2 := w2.ok r1
      have r3 := w3.ok r2
      have r4 := w4.ok r3
      have r5 := w5.ok r4
      have wA := w1.tr (w2.tr (w3.tr (w4.tr w5)))
      have kA := k1.tr (k2.tr (k3.tr (k4.tr k5)))
      refine ⟨F5, ?_, ?_, ?_⟩
      · rw [tX10_append, r_th0 rM, Option.bind_some, r_gI, Option.bind_some, t0.2.1, if_pos (cmp.mpr hl), if_pos r_tag, z1 _ r0, Option.bind_some, if_pos r_tag, z2 _ r1, Option.bind_some, if_pos r_tag, z3 _ r2, Option.bind_some, if_pos r_tag, z4 _ r3, Option.bind_some, if_pos r_tag, z5 _ r4, Option.bind_some, r_gI, Option.bind_some, p5.2.1]
      · have S := simD_txt (M2 := rv (gv M x G5) r F5) (G2 := G5) (F2 := F5) h (fun i h0 h1 h2 => kA.1 i h1 h2) (fun l hl => by rw [kA.1 0 (by omega) (by omega)]) kA.2 (hG_gv.rv (.inl a5)) hR_rv ⟨a4.1, r5.2⟩ rfl (Nat.le_refl _)
          (fun i b E hi hne hbk b0 bm br hE => (hE.gv (.inl b0)).rv (by omega)) ?_ (fun q hq _ => by rw [rv_out (fun g => hq (.inr (.inl (ow g)))), gv_out (fun g => hq (.inl g))]) ⟨_, by omega, p5.1, p5.2.1⟩ p5.2.2 ?_ ?_ (fun i hi => by rw [wA.1 i (by omega) (by omega), Fth_r (by omega)])
        · exact ⟨_, _, _, _, _, _, _, _, _, simD_slk S hs⟩
        · obtain ⟨⟨q1, q2, q3⟩, E, q4, q5⟩ := c1 1 d (by omega) (bk1 b2)
          exact ⟨E, (q4.gv (.inl q1)).rv (by omega), q5⟩
        · rw [gt_row (kA.1 0 (by omega) (by omega)), i1, show gt F5 0 12 = gt (Fth F 0) 0 12 from by unfold gt; rw [wA.2 12 (by omega)], Fth_gt (.inr (by omega))]
        · rw [show gt F5 0 18 = gt (Fth F 0) 0 18 from by unfold gt; rw [wA.2 18 (by omega)], Fth_gt (.inr (by omega))]
      · rw [show gt F5 0 0 = gt (Fth F 0) 0 0 from by unfold gt; rw [wA.2 0 (by omega)], Fth_at]
  · refine opR_read (z := .inl (-1)) (c := 0) h ?_ (fun M' hr => ?_) rfl (fun v e => Sum.inl.inj e)
    · rw [tX9_append, q0, Option.bind_some, q1, Option.bind_some, if_neg (fun g => hl (cmp.mp g)), Option.bind_some]
    · rw [tX10_append, r_th0 hr, Option.bind_some, r_gI, Option.bind_some, Fth_gt (.inr (by omega)), g3, if_neg (fun g => hl (cmp.mp g))]
end
