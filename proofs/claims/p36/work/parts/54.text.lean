section
variable {M : vMe} {x r a d b : Nat} {G F C E : Nat → Nat → Value} {u hz n k : Nat}
theorem bk_txt {G2 : Nat → Nat → Value} (g0 : ∀ i, i ≠ 0 → i ≠ 1 → i ≠ 2 → G2 i = G i) (g00 : ∀ l, l ≠ 5 → G2 0 l = G 0 l) (i : Nat) : bkG G2 i = bkG G i := by
  unfold bkG; rw [g00 3 (by omega), g00 4 (by omega), g0 4 (by omega) (by omega) (by omega), g0 6 (by omega) (by omega) (by omega)]
theorem own_txt {G2 : Nat → Nat → Value} (g0 : ∀ i, i ≠ 0 → i ≠ 1 → i ≠ 2 → G2 i = G i) (g00 : ∀ l, l ≠ 5 → G2 0 l = G 0 l) (q : Nat) : own x r G2 q ↔ own x r G q := by
  unfold own; simp only [bk_txt g0 g00]
/-- the text, the draft and what lies outside have changed -/
theorem simD_txt {M2 : vMe} {G2 F2 : Nat → Nat → Value} (h : simD M x r G F a d C u hz n k) (g0 : ∀ i, i ≠ 0 → i ≠ 1 → i ≠ 2 → G2 i = G i) (g00 : ∀ l, l ≠ 5 → G2 0 l = G 0 l) (g10 : G2 1 0 = G 1 0) (hG2 : hG M2 x G2) (hR2 : hR M2 r F2) (rO : rOk M2 r F2) (hb : M2.2.2.2 = M.2.2.2) (hm : M.2.1 ≤ M2.2.1)
    (ob : ∀ i b E, i < 14 → i ≠ 1 → bkG G i = some b → x + 8 ≤ b → b + 50 ≤ M.2.1 → (b + 50 ≤ r ∨ r + 0 ≤ b) → hB M b E → hB M2 b E) (hd : ∃ E, hB M2 d E ∧ cOk M d E) (tx : ∀ q, ¬ own x r G q → q < M.2.1 → M2.1 q = M.1 q)
    (eL : ∃ len, len ≤ 600 ∧ gt G2 1 1 = Int32.ofNat len ∧ gt F2 0 4 = Int32.ofNat len) (eB : ∀ i, i < 600 → gt G2 2 i = gt F2 3 i) (eE : gt G2 0 5 = gt F2 0 12) (e18 : gt F2 0 18 = gt F 0 18) (eR : ∀ i, i = 1 ∨ i = 2 ∨ i = 7 ∨ i = 8 ∨ i = 9 → F2 i = F i) : simD M2 x r G2 F2 a d C u hz n k := by
  obtain ⟨⟨a1, a2, a3, a4, a5, a6⟩, ⟨b1, b2, b3, b4⟩, c1, d1, ⟨f1, f2, f3, f4⟩, -, -, -, ⟨nx, cnt, j1, j2, j3, j4, j5, j6⟩, l1⟩ := h
  have ka := bk0 b1
  have bkr : ∀ i, bkG G2 i = bkG G i := bk_txt g0 g00
  have sb : ∀ i b E, i < 14 → i ≠ 1 → bkG G i = some b → hB M b E → hB M2 b E := fun i b E hi h0 hbk hE => by
    obtain ⟨q1, q2, q3⟩ := (c1 i b hi hbk).1
    exact ob i b E hi h0 hbk q1 q2 q3 hE
  have nm : ∀ E, simNm M x r G E F 2 n → simNm M2 x r G2 E F2 2 n := fun E hE s hs => by
    obtain ⟨q, l, q1, ⟨p, p1, p2, p3, p4, p5⟩, q3, q4⟩ := hE s hs
    exact ⟨q, l, q1, ⟨p, p1.same (tx q p2 p4) (tx p p3 p5), fun g => p2 ((own_txt g0 g00 q).mp g), fun g => p3 ((own_txt g0 g00 p).mp g), Nat.lt_of_lt_of_le p4 hm, Nat.lt_of_lt_of_le p5 hm⟩, q3, by rw [eR 2 (by omega)]; exact q4⟩
  have cOm : ∀ b E, cOk M b E → cOk M2 b E := fun b E hE => ⟨by rw [hb]; exact hE.1, hE.2⟩
  have gO2 : gOk M2 x G2 := ⟨by rw [hb]; exact a2.1, by rw [g00 _ (by omega)]; exact a2.2.1, by rw [g00 _ (by omega)]; exact a2.2.2.1, by rw [g00 _ (by omega)]; exact a2.2.2.2.1, by rw [g10]; exact a2.2.2.2.2.1, by rw [g0 _ (by omega) (by omega) (by omega)]; exact a2.2.2.2.2.2.1, by rw [g0 _ (by omega) (by omega) (by omega)]; exact a2.2.2.2.2.2.2.1, by rw [g0 _ (by omega) (by omega) (by omega)]; exact a2.2.2.2.2.2.2.2⟩
  refine ⟨⟨hG2, gO2, hR2, rO, a5, by omega⟩, ⟨by rw [g00 _ (by omega)]; exact b1, by rw [g00 _ (by omega)]; exact b2, fun i hi => by rw [g0 4 (by omega) (by omega) (by omega)]; exact b3 i hi, fun i hi => by rw [g0 6 (by omega) (by omega) (by omega)]; exact b4 i hi⟩, fun i b hi hbk => ?_, fun i j b c hi hj hij hx1 hx2 => d1 i j b c hi hj hij (by rw [← bkr]; exact hx1) (by rw [← bkr]; exact hx2), ⟨sb 0 a C (by omega) (by omega) ka f1, cOm _ _ f2, simP_row f3 (fun l _ => by rw [gt_row (eR 1 (by omega))]), nm C f4⟩, eL, eB, eE, ⟨nx, cnt, j1, j2, by rw [gt_row (g0 3 (by omega) (by omega) (by omega))]; exact j3, by rw [gt_row (g0 3 (by omega) (by omega) (by omega))]; exact j4, by rw [e18]; exact j5, fun i hi => ?_⟩, fun j hj => ?_⟩
  · rw [bkr] at hbk
    obtain ⟨⟨q1, q2, q3⟩, E, q4, q5⟩ := c1 i b hi hbk
    refine ⟨⟨q1, by omega, q3⟩, ?_⟩
    by_cases e : i = 1
    · subst e
      cases Option.some.inj ((bk1 b2).symm.trans hbk)
      obtain ⟨E', p1, p2⟩ := hd
      exact ⟨E', p1, cOm _ _ p2⟩
    · exact ⟨E, sb i b E hi e hbk q4, cOm _ _ q5⟩
  · obtain ⟨b, E, k', q1, q2, q3, q4⟩ := j6 i hi
    have hlt : (nx + 10 - cnt + i) % 10 < 10 := Nat.mod_lt _ (by omega)
    exact ⟨b, E, k', by rw [g0 4 (by omega) (by omega) (by omega)]; exact q1, sb _ b E (by omega) (by omega) (bk2 hlt q1) q2, simP_row q3 (fun l _ => by rw [gt_rw, gt_rw, gt_row (eR 7 (by omega))]), nm E q4⟩
  · rcases l1 j hj with ⟨q1, q2⟩ | ⟨q1, q2, b, E, k', q3, q4, q5, q6⟩
    · exact .inl ⟨by rw [gt_row (g0 7 (by omega) (by omega) (by omega))]; exact q1, by rw [gt_row (eR 9 (by omega))]; exact q2⟩
    · exact .inr ⟨by rw [gt_row (g0 7 (by omega) (by omega) (by omega))]; exact q1, by rw [gt_row (eR 9 (by omega))]; exact q2, b, E, k', by rw [g0 6 (by omega) (by omega) (by omega)]; exact q3, sb _ b E (by omega) (by omega) (bk3 q3) q4, simP_row q5 (fun l _ => by rw [gt_rw, gt_rw, gt_row (eR 8 (by omega))]), nm E q6⟩
/-! append -/
theorem g_t1 : gI (gv M x G) (x + 1) 4 1 = some (gt G 1 1) := g_gI (i := 1) (by omega) rfl
theorem g_t0 (gO : gOk M x G) : gA (gv M x G) (x + 1) 4 0 = some (x + 2) := g_gA (i := 1) (by omega) rfl gO.2.2.2.2.1
theorem g_ts {v : Value} (gO : gOk M x G) : sV (gv M x G) (x + 1) 4 1 v = some (gv M x (pu G 1 1 v)) := g_sV (i := 1) gO.1 (by omega) rfl
theorem g_tS {i : Nat} {v : Value} (gO : gOk M x G) (hi : i < 600) : sA (gv M x G) (x + 2) 102 (Int32.ofNat i) v = some (gv M x (pu G 2 i v)) := g_sA (i := 2) (len := 600) gO.1 (by omega) rfl hi (by omega)
theorem g_tI {i : Nat} (hi : i < 600) : aI (gv M x G) (x + 2) 102 (Int32.ofNat i) = some (gt G 2 i) := g_aI (i := 2) (len := 600) (by omega) rfl hi (by omega)
theorem g_x0 (gO : gOk M x G) : gA (gv M x G) x 11 0 = some (x + 1) := g_gA (i := 0) (by omega) rfl gO.2.1
def txI (G F : Nat → Nat → Value) (len : Nat) : Prop := gt G 1 1 = Int32.ofNat len ∧ gt F 0 4 = Int32.ofNat len ∧ ∀ i, i < 600 → gt G 2 i = gt F 3 i
def fG (G G2 : Nat → Nat → Value) : Prop := (∀ i, i ≠ 1 → i ≠ 2 → G2 i = G i) ∧ G2 1 0 = G 1 0
def fFt (F F2 : Nat → Nat → Value) : Prop := (∀ i, i ≠ 0 → i ≠ 3 → F2 i = F i) ∧ ∀ l, l ≠ 4 → F2 0 l = F 0 l
theorem fG.tr {G1 G2 : Nat → Nat → Value} (h : fG G G1) (g : fG G1 G2) : fG G G2 := ⟨fun i h1 h2 => by rw [g.1 i h1 h2, h.1 i h1 h2], by rw [g.2, h.2]⟩
theorem fFt.tr {F1 F2 : Nat → Nat → Value} (h : fFt F F1) (g : fFt F1 F2) : fFt F F2 := ⟨fun i h1 h2 => by rw [g.1 i h1 h2, h.1 i h1 h2], fun l hl => by rw [g.2 l hl, h.2 l hl]⟩
theorem fG.ok {G2 : Nat → Nat → Value} (h : fG G G2) (g : gOk M x G) : gOk M x G2 := ⟨g.1, by rw [h.1 _ (by omega) (by omega)]; exact g.2.1, by rw [h.1 _ (by omega) (by omega)]; exact g.2.2.1, by rw [h.1 _ (by omega) (by omega)]; exact g.2.2.2.1, by rw [h.2]; exact g.2.2.2.2.1, by rw [h.1 _ (by omega) (by omega)]; exact g.2.2.2.2.2.1, by rw [h.1 _ (by omega) (by omega)]; exact g.2.2.2.2.2.2.1, by rw [h.1 _ (by omega) (by omega)]; exact g.2.2.2.2.2.2.2⟩
theorem fFt.ok {M' : vMe} {F2 : Nat → Nat → Value} (h : fFt F F2) (g : rOk M' r F) : rOk M' r F2 := ⟨g.1, fun i h1 h2 => by rw [h.2 _ (by unfold rFld; split <;> omega)]; exact g.2 i h1 h2⟩
end
