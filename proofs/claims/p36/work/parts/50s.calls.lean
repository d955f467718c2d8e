section
variable {KK : Nat → vOb} {M : vMe} {x r a d b y u hz n k clk : Nat} {G F C E : Nat → Nat → Value}
theorem okE_row {F2 : Nat → Nat → Value} (h : okE b E F n clk) (e : F2 1 = F 1) (hn : n ≤ 5) : okE b E F2 n clk := by
  refine ⟨h.1, h.2.1, h.2.2.1, fun s hs => ?_⟩
  obtain ⟨N, hN⟩ := h.2.2.2 s hs
  exact ⟨N, okL_oth hN (by omega) (fun _ _ => rfl) (fun y hy => isM_congr (fun w _ => by unfold oS gt; rw [e]) hy) (Nat.le_refl _)⟩
theorem eOk_ew {M2 : vMe} (h : eOk M2 b E) : eOk (ew M2 b E) b E := ⟨h.1, h.2⟩
/-- the law changes first, then the class -/
theorem LF {α β : Type} {Gs : Nat → Nat} {lawf : vMe → Option (β × vMe)} {cls : vMe → Option (α × vMe)} {rel : α → β → (Nat → Nat → Value) → Prop} {p q : Nat} (hD : simD M x r G F a d C u hz n k) (he : hE M b E) (ho : eOk M b E) (hs : sepW KK M x r b y G E) (hz' : bz C) (hb : M.2.2.2 ≤ M.2.1)
    (P : ∀ N, cOk N a C → ∃ C2 E2 M2 clk2 v w, lawf (ew M b E) = some (w, ew M2 b E2) ∧ cls (cv N a C) = some (v, cv N a C2) ∧ gro M M2 q ∧ cOk N a C2 ∧ eOk M2 b E2 ∧ kN C C2 ∧ simP C2 (gRow F E2) u hz n k ∧ okE b E2 (gRow F E2) n clk2 ∧ clk ≤ clk2 ∧ clk2 ≤ clk + p ∧ E2 42 = E 42 ∧ bz C2 ∧ rel v w E2) :
    ∃ W1 M1 G1 C2 E2 clk2 v w, lawf M = some (w, W1) ∧ (M.2.1 ≤ W1.2.1 ∧ W1.2.1 ≤ M.2.1 + q ∧ W1.2.2.1 ≤ M.2.2.1 + 6 * q) ∧ simD W1 x r G F a d C u hz n k ∧ hE W1 b E2 ∧ eOk W1 b E2 ∧ rem Gs W1 M1 x r a d u hz n G G1 F C ∧ cls M1 = some (v, cv M1 a C2) ∧ cOk M1 a C2 ∧ simP C2 (gRow F E2) u hz n k ∧ okE b E2 (gRow F E2) n clk2 ∧ clk ≤ clk2 ∧ clk2 ≤ clk + p ∧ rel v w E2 ∧ hE (cv M1 a C2) b E2 ∧ eOk (cv M1 a C2) b E2 ∧ WW KK (cv M1 a C2) x r b y u hz n clk2 E2 := by
  obtain ⟨Ca, Ea, Ma, clka, va, wa, a1, a2, a3, a4, a5, a6, a7, a8, a9, a10, a11, a12, a13⟩ := P M (D_c hD)
  have s1 := simD_ew hD he hs a3 a11 a5
  obtain ⟨M1, G1, hr⟩ := rem_P (Gs := Gs) s1 hz'
  obtain ⟨C2, E2, M2, clk2, v, w, b1, b2, b3, b4, b5, b6, b7, b8, b9, b10, b11, b12, b13⟩ := P M1 hr.2.2.2.2.2.2.2.1
  obtain ⟨e1, e2⟩ := Prod.mk.inj (Option.some.inj (a1.symm.trans b1))
  subst e1
  rw [e2] at s1 hr
  rw [he.eq ho] at b1
  rw [hr.2.2.2.2.2.2.1.eq] at b2
  have sp := sep_law hs b3 b11 b5
  obtain ⟨t1, t2, t3⟩ := sep_rem hr sp (hE_ew b5) (eOk_ew b5) C2
  have hrr := hr
  obtain ⟨r1, r2, r3, r4, r5, r6, r7, r8, r9, r10, r11, r12, r13⟩ := hrr
  obtain ⟨F2, f1, f2⟩ := r13 C2 E2 k b4 b6 b7
  obtain ⟨g1, g2, g3, g4, g5⟩ := b3
  have hn5 := b7.1.2.2.1.2
  refine ⟨ew M2 b E2, M1, G1, C2, E2, clk2, v, wa, b1, ⟨g2, g3, g4⟩, s1, hE_ew b5, eOk_ew b5, hr, b2, b4, b7, b8, b9, b10, b13, t2, t3, G1, F2, a, d, C2, k, f2, f1, okE_row b8 (by rw [f1, gRow_1]) hn5, t2, t3, t1, b12, ?_⟩
  show M1.2.2.2 ≤ M1.2.1
  rw [r5]
  have : M.2.2.2 ≤ M2.2.1 := by omega
  have q4 : M2.2.1 ≤ M1.2.1 := r4
  have q5 : M2.2.2.2 = M.2.2.2 := g1
  show M2.2.2.2 ≤ _
  omega
/-- the class changes first, then the law -/
theorem CF {α β : Type} {Gs : Nat → Nat} {lawf : vMe → Option (β × vMe)} {cls : vMe → Option (α × vMe)} {rel : α → β → (Nat → Nat → Value) → Prop} {p q : Nat} (hD : simD M x r G F a d C u hz n k) (he : hE M b E) (ho : eOk M b E) (hs : sepW KK M x r b y G E) (hz' : bz C) (hb : M.2.2.2 ≤ M.2.1)
    (P : ∀ N M', cOk N a C → eOk M' b E → (∀ z, eA b E z → z < M'.2.1) → M'.2.2.2 ≤ M'.2.1 → ∃ C2 E2 M2 clk2 v w, lawf (ew M' b E) = some (w, ew M2 b E2) ∧ cls (cv N a C) = some (v, cv N a C2) ∧ gro M' M2 q ∧ cOk N a C2 ∧ eOk M2 b E2 ∧ kN C C2 ∧ simP C2 (gRow F E2) u hz n k ∧ okE b E2 (gRow F E2) n clk2 ∧ clk ≤ clk2 ∧ clk2 ≤ clk + p ∧ E2 42 = E 42 ∧ bz C2 ∧ rel v w E2) :
    ∃ M1 G1 C2 E2 W2 clk2 v w, rem Gs M M1 x r a d u hz n G G1 F C ∧ cls M1 = some (v, cv M1 a C2) ∧ cOk M1 a C2 ∧ hE (cv M1 a C2) b E ∧ eOk (cv M1 a C2) b E ∧ lawf (cv M1 a C2) = some (w, W2) ∧ (M1.2.1 ≤ W2.2.1 ∧ W2.2.1 ≤ M1.2.1 + q ∧ W2.2.2.1 ≤ M1.2.2.1 + 6 * q) ∧ clk ≤ clk2 ∧ clk2 ≤ clk + p ∧ rel v w E2 ∧ WW KK W2 x r b y u hz n clk2 E2 := by
  obtain ⟨M1, G1, hr⟩ := rem_P (Gs := Gs) hD hz'
  have hrr := hr
  obtain ⟨r1, r2, r3, r4, r5, r6, r7, r8, r9, r10, r11, r12, r13⟩ := hrr
  have bnd : ∀ C', (cv M1 a C').2.2.2 ≤ (cv M1 a C').2.1 := fun C' => by show M1.2.2.2 ≤ M1.2.1; omega
  have ho1 : ∀ C', eOk (cv M1 a C') b E := fun C' => ⟨by show M1.2.2.2 ≤ b; rw [r5]; exact ho.1, ho.2⟩
  obtain ⟨Ca, Ea, Ma, clka, va, wa, a1, a2, -⟩ := P M1 (cv M1 a C) r8 (ho1 C) (fun z hz => by
    have := (hs.1 z hz).1
    show z < M1.2.1
    omega) (bnd C)
  obtain ⟨C2, E2, M2, clk2, v, w, b1, b2, b3, b4, b5, b6, b7, b8, b9, b10, b11, b12, b13⟩ := P M1 (cv M1 a Ca) r8 (ho1 Ca) (fun z hz => by
    have := (hs.1 z hz).1
    show z < M1.2.1
    omega) (bnd Ca)
  obtain ⟨e1, e2⟩ := Prod.mk.inj (Option.some.inj (a2.symm.trans b2))
  rw [e2] at b1 b3
  rw [r7.eq] at b2
  obtain ⟨t1, t2, t3⟩ := sep_rem hr hs he ho C2
  rw [t2.eq t3] at b1
  obtain ⟨F2, f1, f2⟩ := r13 C2 E2 k b4 b6 b7
  have s2 := simD_ew f2 t2 t1 b3 b11 b5
  have sp := sep_law t1 b3 b11 b5
  have hn5 := b7.1.2.2.1.2
  have g := b3
  obtain ⟨g1, g2, g3, g4, g5⟩ := g
  refine ⟨M1, G1, C2, E2, ew M2 b E2, clk2, v, w, hr, b2, b4, t2, t3, b1, ⟨g2, g3, g4⟩, b9, b10, b13, G1, F2, a, d, C2, k, s2, f1, okE_row b8 (by rw [f1, gRow_1]) hn5, hE_ew b5, eOk_ew b5, sp, b12, ?_⟩
  show M2.2.2.2 ≤ M2.2.1
  have h1 : M2.2.2.2 = M1.2.2.2 := g1
  have h2 : M1.2.1 ≤ M2.2.1 := g2
  omega
/-! the class's calls -/
variable {KK : Nat → vOb} {Gs : Nat → Nat} {M1 Mc : vMe} {G1 C2 : Nat → Nat → Value}
theorem X_add {j l : Nat} {v0 v : Int32} (h : simD M x r G F a d C u hz n k) (hr : rem Gs M M1 x r a d u hz n G G1 F C) (hj : j < n) (hl : l < u) (e1 : tX5_bringIn a (a + (4 + 8 * j)) (Int32.ofNat l) M1 = some (v0, Mc)) (e2 : tX7_placeOf (a + (4 + 8 * j)) (Int32.ofNat l) Mc = some v) (ec : Mc.2 = M1.2) (hb2 : hB Mc a C2) : tX9_add Gs x (Int32.ofNat j) (Int32.ofNat l) M = some (.inl v, Mc) := by
  obtain ⟨q1, q2, q3, q4, q5, q6, q7, q8, -⟩ := hr
  have cm : Mc.2.1 ≤ M.2.1 + 50 ∧ Mc.2.2.1 ≤ M.2.2.1 + 2001 := by rw [ec]; exact ⟨q2, q3⟩
  have hj5 : j < 5 := by have := (D_p h).1.2.2.1.2; omega
  rw [tX9_add, if_pos (ok3 M), if_pos (T_x h.1.1), (c_rowsOf h _).1 j hj rfl, Option.bind_some]
  simp only [Sum.elim_inl]
  rw [if_pos (ok3 M), if_pos (T_x h.1.1), (c_checkNumber h _).1 l hl rfl, Option.bind_some]
  simp only [Sum.elim_inl]
  rw [A_hi h, Option.bind_some, A_no h, Option.bind_some, if_pos (ok4 M), if_pos (T_hi h.1.1), q1, Option.bind_some, q6, Option.bind_some, if_pos ⟨q2, q3⟩, if_pos (T_b q7), e1, Option.bind_some, if_pos (show Mc.2.1 + 0 ≤ M.2.1 + 50 ∧ Mc.2.2.1 + 0 ≤ M.2.2.1 + 2001 from cm), if_pos (B_tR hb2 hj5), e2, Option.bind_some, if_pos cm]
theorem X_remove {j l : Nat} {v : Int32} (h : simD M x r G F a d C u hz n k) (hr : rem Gs M M1 x r a d u hz n G G1 F C) (hj : j < n) (hl : l < u) (e1 : tX5_takeOut a (Int32.ofNat j) (Int32.ofNat l) M1 = some (v, Mc)) (hv : v = 0 ∨ v = 1) (ec : Mc.2 = M1.2) : tX9_remove Gs x (Int32.ofNat j) (Int32.ofNat l) M = some (.inl v, Mc) := by
  obtain ⟨q1, q2, q3, q4, q5, q6, q7, q8, -⟩ := hr
  have cm : Mc.2.1 ≤ M.2.1 + 50 ∧ Mc.2.2.1 ≤ M.2.2.1 + 2001 := by rw [ec]; exact ⟨q2, q3⟩
  rw [tX9_remove, if_pos (ok3 M), if_pos (T_x h.1.1), (c_checkSet h _).1 j hj rfl, Option.bind_some]
  simp only [Sum.elim_inl]
  rw [if_pos (ok3 M), if_pos (T_x h.1.1), (c_checkNumber h _).1 l hl rfl, Option.bind_some]
  simp only [Sum.elim_inl]
  rw [A_hi h, Option.bind_some, A_no h, Option.bind_some, if_pos (ok4 M), if_pos (T_hi h.1.1), q1, Option.bind_some, q6, Option.bind_some, if_pos ⟨q2, q3⟩, if_pos (T_b q7), e1, Option.bind_some, if_pos cm, if_pos (show fits .boolean (.int v) = true from by rcases hv with e | e <;> (rw [e]; decide))]
theorem X_clear {j : Nat} (h : simD M x r G F a d C u hz n k) (hr : rem Gs M M1 x r a d u hz n G G1 F C) (hj : j < n) (e1 : tX5_emptySet a (Int32.ofNat j) M1 = some ((), Mc)) (ec : Mc.2 = M1.2) : tX9_clear Gs x (Int32.ofNat j) M = some (.inl (oS F j 0), Mc) := by
  obtain ⟨q1, q2, q3, q4, q5, q6, q7, q8, -⟩ := hr
  have cm : Mc.2.1 ≤ M.2.1 + 50 ∧ Mc.2.2.1 ≤ M.2.2.1 + 2001 := by rw [ec]; exact ⟨q2, q3⟩
  have hj5 : j < 5 := by have := (D_p h).1.2.2.1.2; omega
  rw [tX9_clear, if_pos (ok3 M), if_pos (T_x h.1.1), (c_rowsOf h _).1 j hj rfl, Option.bind_some]
  simp only [Sum.elim_inl]
  rw [B_rI (D_b h) hj5, Option.bind_some, ((D_p h).2.2.2.2.2 j hj).1.1, A_hi h, Option.bind_some, A_no h, Option.bind_some, if_pos (ok4 M), if_pos (T_hi h.1.1), q1, Option.bind_some, q6, Option.bind_some, if_pos ⟨q2, q3⟩, if_pos (T_b q7), e1, Option.bind_some, if_pos cm]
theorem X_mark {v : Int32} (h : simD M x r G F a d C u hz n k) (hr : rem Gs M M1 x r a d u hz n G G1 F C) (hk : k < 8) (e1 : tX5_makeMark a M1 = some ((), Mc)) (ec : Mc.2 = M1.2) (e2 : gA Mc x 11 3 = some a) (e3 : gI Mc a 8 6 = some v) : tX9_mark Gs x M = some (.inl (v - 1), Mc) := by
  obtain ⟨q1, q2, q3, q4, q5, q6, q7, q8, -⟩ := hr
  have cm : Mc.2.1 ≤ M.2.1 + 50 ∧ Mc.2.2.1 ≤ M.2.2.1 + 2001 := by rw [ec]; exact ⟨q2, q3⟩
  have e6 : gI M a 8 6 = some (Int32.ofNat k) := by rw [B_I0 (D_b h), (D_p h).2.1.2.2.2.1, (D_p h).1.2.2.2.1]
  rw [tX9_mark, A_no h, Option.bind_some, e6, Option.bind_some, if_pos (show Int32.ofNat k < 8 from (n_lt (b := 8) (by omega) (by omega)).mpr (by omega)), A_hi h, Option.bind_some, Option.bind_some, if_pos (ok4 M), if_pos (T_hi h.1.1), q1, Option.bind_some, q6, Option.bind_some, if_pos ⟨q2, q3⟩, if_pos (T_b q7), e1, Option.bind_some, e2, Option.bind_some, e3, Option.bind_some, if_pos cm]
theorem X_open {j c : Nat} {st : Int32} (h : simD M x r G F a d C u hz n k) (hr : rem Gs M M1 x r a d u hz n G G1 F C) (hj : j < n) (hc : c < 6) (f1 : tX5_freeCursor a M = some (Int32.ofNat c)) (e1 : tX0_begin (a + (44 + c)) (Int32.ofNat j) st (gt C 0 7) M1 = some ((), Mc)) (ec : Mc.2 = M1.2) : tX9_open Gs x (Int32.ofNat j) st M = some (.inl (Int32.ofNat c), Mc) := by
  obtain ⟨q1, q2, q3, q4, q5, q6, q7, q8, -⟩ := hr
  have cm : Mc.2.1 ≤ M.2.1 + 50 ∧ Mc.2.2.1 ≤ M.2.2.1 + 2001 := by rw [ec]; exact ⟨q2, q3⟩
  have nm1 : ¬ Int32.ofNat c = -1 := fun e => by have := n_neg (a := c) (by omega); rw [e] at this; exact this (by decide)
  rw [tX9_open, if_pos (ok3 M), if_pos (T_x h.1.1), (c_checkSet h _).1 j hj rfl, Option.bind_some]
  simp only [Sum.elim_inl]
  rw [A_no h, Option.bind_some, if_pos (ok5 M), if_pos (T_b (D_b h)), f1, Option.bind_some, if_neg nm1, A_hi h, Option.bind_some, Option.bind_some, if_pos (ok4 M), if_pos (T_hi h.1.1), q1, Option.bind_some, q6, Option.bind_some, B_A1 q7 q8, Option.bind_some, B_U q7 q8 hc, Option.bind_some, Option.bind_some, B_I0 q7, Option.bind_some, if_pos ⟨q2, q3⟩, if_pos (B_tU q7 hc), e1, Option.bind_some, if_pos cm]
theorem X_close {c : Nat} {v : Int32} {M7 : vMe} (h : simD M x r G F a d C u hz n k) (hr : rem Gs M M1 x r a d u hz n G G1 F C) (hc : c < 6) (h0 : oC F c 0 = 1) (e1 : sV M1 (a + (44 + c)) 3 0 (.int 0) = some M7) (e2 : sV M7 (a + (44 + c)) 3 1 (.int 0) = some Mc) (e3 : gI Mc (a + (44 + c)) 3 6 = some v) (ec : Mc.2 = M1.2) : tX9_close Gs x (Int32.ofNat c) M = some (.inl v, Mc) := by
  obtain ⟨q1, q2, q3, q4, q5, q6, q7, q8, -⟩ := hr
  have cm : Mc.2.1 ≤ M.2.1 + 50 ∧ Mc.2.2.1 ≤ M.2.2.1 + 2001 := by rw [ec]; exact ⟨q2, q3⟩
  rw [tX9_close, if_pos (ok3 M), if_pos (T_x h.1.1), (c_cursorOf h _).1 c hc h0 rfl, Option.bind_some]
  simp only [Sum.elim_inl]
  rw [A_hi h, Option.bind_some, A_no h, Option.bind_some, if_pos (ok4 M), if_pos (T_hi h.1.1), q1, Option.bind_some, e1, Option.bind_some, e2, Option.bind_some, e3, Option.bind_some, if_pos cm]
theorem X_step {c : Nat} {v : Int32} (h : simD M x r G F a d C u hz n k) (hr : rem Gs M M1 x r a d u hz n G G1 F C) (hc : c < 6) (h0 : oC F c 0 = 1) (e1 : (if gt C (44 + c) 1 = 0 then some ((-1 : Int32), M1) else tX5_meetNext a (a + (44 + c)) M1) = some (v, Mc)) (ec : Mc.2 = M1.2) : tX9_step Gs x (Int32.ofNat c) M = some (.inl v, Mc) := by
  obtain ⟨q1, q2, q3, q4, q5, q6, q7, q8, -⟩ := hr
  have cm : Mc.2.1 ≤ M.2.1 + 50 ∧ Mc.2.2.1 ≤ M.2.2.1 + 2001 := by rw [ec]; exact ⟨q2, q3⟩
  rw [tX9_step, if_pos (ok3 M), if_pos (T_x h.1.1), (c_cursorOf h _).1 c hc h0 rfl, Option.bind_some]
  simp only [Sum.elim_inl]
  rw [A_hi h, Option.bind_some, A_no h, Option.bind_some, if_pos (ok4 M), if_pos (T_hi h.1.1), q1, Option.bind_some, B_uI q7 hc, Option.bind_some]
  by_cases q : gt C (44 + c) 1 = 0
  · rw [if_pos q] at e1 ⊢
    obtain ⟨f1, f2⟩ := Prod.mk.inj (Option.some.inj e1)
    rw [if_pos ⟨q2, q3⟩, f1, f2]
  · rw [if_neg q] at e1 ⊢
    rw [q6, Option.bind_some, if_pos ⟨q2, q3⟩, if_pos (T_b q7), e1, Option.bind_some, if_pos cm]
theorem X_removeMet {c t l : Nat} {v : Int32} (h : simD M x r G F a d C u hz n k) (hr : rem Gs M M1 x r a d u hz n G G1 F C) (hc : c < 6) (h0 : oC F c 0 = 1) (h3 : oC F c 3 ≠ 0) (ht : t < n) (h1 : oC F c 1 = Int32.ofNat t) (h7 : oC F c 7 - 1 = Int32.ofNat l) (hl : l < 64) (hM : isM F t l) (e1 : tX5_takeOut a (Int32.ofNat t) (Int32.ofNat l) M1 = some (v, Mc)) (ec : Mc.2 = M1.2) : tX9_removeMet Gs x (Int32.ofNat c) M = some (.inl (Int32.ofNat l), Mc) := by
  obtain ⟨q1, q2, q3, q4, q5, q6, q7, q8, -⟩ := hr
  have cm : Mc.2.1 ≤ M.2.1 + 50 ∧ Mc.2.2.1 ≤ M.2.2.1 + 2001 := by rw [ec]; exact ⟨q2, q3⟩
  have hP := D_p h
  have hb := D_b h
  have ht5 : t < 5 := by have := hP.1.2.2.1.2; omega
  rcases hP.2.2.2.1 c hc with ⟨g1, -⟩ | ⟨g1, g2, g3, g4, g5, g6, g7, g8, g9, -⟩
  · rw [g1] at h0; exact absurd h0 (by decide)
  have hz11 : tX7_has (a + (4 + 8 * t)) (Int32.ofNat l) M = some 1 := by
    have := (c_has (M := M) (D_c h) ht5 (hP.2.2.2.2.2 t ht).2 (hP.2.2.2.2.2 t ht).1 hP.1.1.2.2 (y := l) hl).1 hM
    rw [hb.eq] at this; exact this
  rw [tX9_removeMet, if_pos (ok3 M), if_pos (T_x h.1.1), (c_cursorOf h _).1 c hc h0 rfl, Option.bind_some]
  simp only [Sum.elim_inl]
  rw [B_uI hb hc, Option.bind_some, B_uI hb hc, Option.bind_some, g3, g9, h7, if_neg h3, A_no h, Option.bind_some, B_A0 hb (D_c h), Option.bind_some, B_uI hb hc, Option.bind_some, g5, h1, B_S hb (D_c h) ht5, Option.bind_some, if_pos (ok5 M), if_pos (B_tR hb ht5), hz11, Option.bind_some, if_neg n10, A_hi h, Option.bind_some, Option.bind_some, if_pos (ok4 M), if_pos (T_hi h.1.1), q1, Option.bind_some, q6, Option.bind_some, B_uI q7 hc, Option.bind_some, g5, h1, if_pos ⟨q2, q3⟩, if_pos (T_b q7), e1, Option.bind_some, if_pos cm]
theorem X_keep {i j : Nat} {v : Int32} (h : simD M x r G F a d C u hz n k) (hr : rem Gs M M1 x r a d u hz n G G1 F C) (hi : i < n) (hj : j < n) (e1 : tX5_keepCommon a (Int32.ofNat i) (Int32.ofNat j) M1 = some (v, Mc)) (ec : Mc.2 = M1.2) : tX9_keep Gs x (Int32.ofNat i) (Int32.ofNat j) M = some (.inl v, Mc) := by
  obtain ⟨q1, q2, q3, q4, q5, q6, q7, q8, -⟩ := hr
  have cm : Mc.2.1 ≤ M.2.1 + 50 ∧ Mc.2.2.1 ≤ M.2.2.1 + 2001 := by rw [ec]; exact ⟨q2, q3⟩
  rw [tX9_keep, if_pos (ok3 M), if_pos (T_x h.1.1), (c_checkSet h _).1 i hi rfl, Option.bind_some]
  simp only [Sum.elim_inl]
  rw [if_pos (ok3 M), if_pos (T_x h.1.1), (c_checkSet h _).1 j hj rfl, Option.bind_some]
  simp only [Sum.elim_inl]
  rw [A_hi h, Option.bind_some, A_no h, Option.bind_some, if_pos (ok4 M), if_pos (T_hi h.1.1), q1, Option.bind_some, q6, Option.bind_some, if_pos ⟨q2, q3⟩, if_pos (T_b q7), e1, Option.bind_some, if_pos cm]
theorem X_unite {i j : Nat} {v : Int32} (h : simD M x r G F a d C u hz n k) (hr : rem Gs M M1 x r a d u hz n G G1 F C) (hi : i < n) (hj : j < n) (e1 : tX5_bringAll a (Int32.ofNat i) (Int32.ofNat j) M1 = some (v, Mc)) (ec : Mc.2 = M1.2) : tX9_unite Gs x (Int32.ofNat i) (Int32.ofNat j) M = some (.inl v, Mc) := by
  obtain ⟨q1, q2, q3, q4, q5, q6, q7, q8, -⟩ := hr
  have cm : Mc.2.1 ≤ M.2.1 + 50 ∧ Mc.2.2.1 ≤ M.2.2.1 + 2001 := by rw [ec]; exact ⟨q2, q3⟩
  rw [tX9_unite, if_pos (ok3 M), if_pos (T_x h.1.1), (c_checkSet h _).1 i hi rfl, Option.bind_some]
  simp only [Sum.elim_inl]
  rw [if_pos (ok3 M), if_pos (T_x h.1.1), (c_checkSet h _).1 j hj rfl, Option.bind_some]
  simp only [Sum.elim_inl]
  rw [A_hi h, Option.bind_some, A_no h, Option.bind_some, if_pos (ok4 M), if_pos (T_hi h.1.1), q1, Option.bind_some, q6, Option.bind_some, if_pos ⟨q2, q3⟩, if_pos (T_b q7), e1, Option.bind_some, if_pos cm]
end
