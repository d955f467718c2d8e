section
variable {M M' N : vMe} {x y r a d : Nat} {G F C D : Nat → Nat → Value} {P : Nat → Value} {T : Nat → Nat} {len : Nat} {Gs : Nat → Nat}
/-! the halves of a token -/
def ck (Gs T : Nat → Nat) (len : Nat) (P : Nat → Value) (e0 c p e : Nat) : Prop :=
  P 3 = .ref (Gs (tIx c)) ∧ vI (P 4) = Int32.ofNat p ∧ vI (P 5) = Int32.ofNat e ∧ run isB T len e0 p ∧ tokC T len p c e ∧ (c = 2 → vI (P 6) = Int32.ofNat (dv (fun i => T (p + i)) (e - p)))
def rk (T : Nat → Nat) (len : Nat) (F : Nat → Nat → Value) (e0 c p e : Nat) : Prop :=
  gt F 0 8 = Int32.ofNat c ∧ gt F 0 6 = Int32.ofNat p ∧ gt F 0 7 = Int32.ofNat e ∧ run isB T len e0 p ∧ tokC T len p c e ∧ (c = 2 → gt F 0 9 = Int32.ofNat (dv (fun i => T (p + i)) (e - p))) ∧ (c = 1 → vJ (F 0 10) = pk (fun i => T (p + i)) (e - p))
theorem rk.row {F2 : Nat → Nat → Value} {e0 c p e : Nat} (h : rk T len F e0 c p e) (g : ∀ l, 6 ≤ l → l ≤ 10 → F2 0 l = F 0 l) : rk T len F2 e0 c p e := by
  obtain ⟨h1, h2, h3, h4, h5, h6, h7⟩ := h
  exact ⟨by unfold gt; rw [g 8 (by omega) (by omega)]; exact h1, by unfold gt; rw [g 6 (by omega) (by omega)]; exact h2, by unfold gt; rw [g 7 (by omega) (by omega)]; exact h3, h4, h5, fun c => by unfold gt; rw [g 9 (by omega) (by omega)]; exact h6 c, fun c => by rw [g 10 (by omega) (by omega)]; exact h7 c⟩
theorem tk_join {e0 c p e c' p' e' : Nat} (h : ck Gs T len P e0 c p e) (g : rk T len F e0 c' p' e') : tk Gs T len P F c p e ∧ e0 ≤ p := by
  obtain ⟨h1, h2, h3, h4, h5, h6⟩ := h
  obtain ⟨g1, g2, g3, g4, g5, g6, g7⟩ := g
  have ep : p = p' := run_u h4 g4
  subst ep
  obtain ⟨ec, ee⟩ := tokC_u h5 g5
  subst ec; subst ee
  refine ⟨⟨h1, g1, h2, g2, h3, g3, h4.2.1, h5, fun w => ⟨dv (fun i => T (p + i)) (e - p), ?_, h6 w, g6 w⟩, g7⟩, h4.1⟩
  have q3 : e - p ≤ 3 ∧ ∀ i, p ≤ i → i < e → isD (T i) := by
    rcases h5 with ⟨k1, k2, k3⟩ | ⟨k1, k2, k3, k4⟩ | ⟨k1, k2, k3, k4, k5⟩ | ⟨k1, k2, k3, k4, k5⟩
    · omega
    · omega
    · exact ⟨by omega, k4.2.2.1⟩
    · omega
  have l1 := dv_lt (B := fun i => T (p + i)) (e - p) (fun i hi => (q3.2 (p + i) (by omega) (by omega)).2)
  have l2 : 10 ^ (e - p) ≤ 10 ^ 3 := Nat.pow_le_pow_right (by omega) q3.1
  omega
/-- the class alone goes on -/
theorem c_next {e : Nat} (S : pS x y d r len T G N M' P D F) (h5 : vI (P 5) = Int32.ofNat e) (he : e ≤ len) :
    ∃ P2 c p e2, tX3_toNextToken Gs y N = some ((), pv N y P2) ∧ pS x y d r len T G (pv N y P2) M' P2 D F ∧ ck Gs T len P2 e c p e2 ∧ ∀ k, k < 3 ∨ 6 < k → P2 k = P k := by
  obtain ⟨⟨a1, a2, a3, a4⟩, ⟨b1, b2, b3, b4⟩, ⟨c1, c2⟩, hd, ⟨g1, g2, g3⟩⟩ := S
  obtain ⟨P2, c, p, e2, p1, p2, p3, p4, p5, p6, p7, p8, p9⟩ := c_tok (Gs := Gs) a1 a2 a3 g1 b4 a4 b1 b2 h5 he
  exact ⟨P2, c, p, e2, p1, ⟨⟨a1.pv g1, a2, a3, a4⟩, ⟨hY_pv, p2, by rw [p9 2 (by omega)]; exact b3, b4⟩, ⟨fun i hi => by rw [pv_out (by omega)]; exact c1 i hi, c2⟩, hd, ⟨g1, g2, g3⟩⟩, ⟨p5, p3, p4, p6, p7, p8⟩, p9⟩
/-- the reference alone goes on -/
theorem r_next {e : Nat} (S : pS x y d r len T G N M' P D F) (h7 : gt F 0 7 = Int32.ofNat e) (he : e ≤ len) :
    ∃ F2 c p e2, tX10_advance r (rv M' r F) = some ((), rv M' r F2) ∧ pS x y d r len T G N M' P D F2 ∧ rk T len F2 e c p e2 ∧ (∀ i, i ≠ 0 → F2 i = F i) ∧ ∀ l, l < 6 ∨ 10 < l → F2 0 l = F 0 l := by
  obtain ⟨ha, hb, hc, ⟨d1, d2, d3⟩, hg⟩ := S
  obtain ⟨F2, c, p, e2, q1, q2, q3, q4, q5, q6, q7, q8, q9, q10, q11⟩ := r_tok ha.2.2.2 d1 d2 d3 h7 he
  exact ⟨F2, c, p, e2, q1, ⟨ha, hb, hc, ⟨q2, d2.row (q10 3 (by omega)), by unfold gt; rw [q11 5 (by omega)]; exact d3⟩, hg⟩, ⟨q5, q3, q4, q6, q7, q8, q9⟩, q10, q11⟩
/-- what a failure leaves -/
def er (P : Nat → Value) (F : Nat → Nat → Value) : Prop := vI (P 7) = gt F 0 11 ∧ vI (P 8) = gt F 0 12
/-- a failed step: P2, F2 out of P, F -/
def bad (x y d r len : Nat) (T : Nat → Nat) (G : Nat → Nat → Value) (N M' : vMe) (D F : Nat → Nat → Value) (P2 : Nat → Value) (F2 : Nat → Nat → Value) : Prop :=
  pS x y d r len T G (pv N y P2) M' P2 D F2 ∧ er P2 F2 ∧ (∀ i, i ≠ 0 → F2 i = F i) ∧ ∀ l, l < 6 ∨ 16 < l → F2 0 l = F 0 l
theorem fail_B {c p e : Nat} (j : Int32) (S : pS x y d r len T G N M' P D F) (t : tk Gs T len P F c p e) (h11 : gt F 0 11 = 0) :
    ∃ P2 F2, tX3_fail y j N = some (0, pv N y P2) ∧ tX10_fails r j (rv M' r F) = some (0, rv M' r F2) ∧ bad x y d r len T G N M' D F P2 F2 := by
  obtain ⟨P2, F2, q1, q2, q3, q4, q5, q6, q7, q8, q9⟩ := fail_P (j := j) S t h11
  exact ⟨P2, F2, q1, q2, q3, ⟨q4.trans q5.symm, q6⟩, q8, fun l hl => q9 l (by omega) (by omega)⟩
theorem p_tg (S : pS x y d r len T G N M' P D F) : (N.1 y).1 = 6 := by rw [S.2.1.1]
/-- a number is asked for -/
theorem num_P {c p e lo hi : Nat} (S : pS x y d r len T G N M' P D F) (t : tk Gs T len P F c p e) (hd : tkD Gs) (h11 : gt F 0 11 = 0) (hlo : lo < 1000) (hhi : hi < 1000) :
    (∃ P2 F2, tX3_isNumber Gs y (Int32.ofNat lo) (Int32.ofNat hi) N = some (0, pv N y P2) ∧ tX10_takes r (Int32.ofNat lo) (Int32.ofNat hi) (rv M' r F) = some (0, rv M' r F2) ∧ bad x y d r len T G N M' D F P2 F2) ∨
    (∃ v F2 c' p' e', c = 2 ∧ lo ≤ v ∧ v ≤ hi ∧ vI (P 6) = Int32.ofNat v ∧ tX3_isNumber Gs y (Int32.ofNat lo) (Int32.ofNat hi) N = some (1, N) ∧ tX10_takes r (Int32.ofNat lo) (Int32.ofNat hi) (rv M' r F) = some (1, rv M' r F2) ∧
      pS x y d r len T G N M' P D F2 ∧ rk T len F2 e c' p' e' ∧ gt F2 0 13 = Int32.ofNat v ∧ (∀ i, i ≠ 0 → F2 i = F i) ∧ ∀ l, l < 6 ∨ (10 < l ∧ l ≠ 13) → F2 0 l = F 0 l) := by
  have b1 := S.2.1.1
  have t0 := t
  obtain ⟨t1, t2, t3, t4, t5, t6, t7, t8, t9, t10⟩ := t
  have c5 := tokC_5 t8
  have ce := tokC_e t8 t7
  have hl := S.1.2.2.2
  have g3 : gA N y 6 3 = some (Gs (tIx c)) := by rw [← b1.eq]; exact p_A t1
  have g6 : gI N y 6 6 = some (vI (P 6)) := by rw [← b1.eq, p_I]
  have cc : Gs (tIx c) = Gs 101 ↔ c = 2 := tIx_eq hd (j := 2) c5 (by omega)
  by_cases h2 : c = 2
  · obtain ⟨v, v1, v2, v3⟩ := t9 h2
    by_cases hv : lo ≤ v ∧ v ≤ hi
    · right
      have f13 : ∀ j, rFld j ≠ 13 := fun j => by unfold rFld; split <;> omega
      have dR := S.2.2.2.1
      have S1 : pS x y d r len T G N M' P D (pu F 0 13 (.int (Int32.ofNat v))) := ⟨S.1, S.2.1, S.2.2.1, ⟨rOk_0 dR.1 f13, dR.2.1.row (pu_o (by omega)), by rw [gt_ne (by omega)]; exact dR.2.2⟩, S.2.2.2.2⟩
      obtain ⟨F2, c', p', e', q1, q2, q3, q4, q5⟩ := r_next S1 (e := e) (by rw [gt_ne (by omega)]; exact t6) ce.2.1
      refine ⟨v, F2, c', p', e', h2, hv.1, hv.2, v2, ?_, ?_, q2, q3, by rw [show gt F2 0 13 = gt (pu F 0 13 (.int (Int32.ofNat v))) 0 13 from by unfold gt; rw [q5 13 (by omega)], gt_eq], fun i hi => by rw [q4 i hi, pu_o hi], fun l hl => by rw [q5 l (by omega), pu_ne (by omega)]⟩
      · rw [tX3_isNumber, g3, Option.bind_some, if_pos (cc.mpr h2), g6, Option.bind_some, v2, if_neg (fun g => by have := (n_lt (by omega) (by omega)).mp g; omega), Option.bind_some, if_pos ((n_le (by omega) (by omega)).mpr hv.2)]
      · have ww : tX10_within (Int32.ofNat v) (Int32.ofNat lo) (Int32.ofNat hi) (rv M' r F) = some 1 := by
          rw [tX10_within, if_neg (fun g => by have := (n_lt (by omega) (by omega)).mp g; omega), if_neg (fun g => by have := (n_lt (by omega) (by omega)).mp g; omega)]
        rw [tX10_takes, r_gI, Option.bind_some, t2, if_c (v := 2) (b := 2) rfl (by omega) (by omega), if_pos h2, r_gI, Option.bind_some, v3, ww, Option.bind_some, if_neg n10, Option.bind_some, r_sV _ dR.1, Option.bind_some, if_pos r_tag, q1, Option.bind_some]
    · left
      obtain ⟨P2, F2, q1, q2, q3⟩ := fail_B 3 S t0 h11
      refine ⟨P2, F2, ?_, ?_, q3⟩
      · have J : tX3_isNumber_J32 y N = some (0, pv N y P2) := by
          rw [tX3_isNumber_J32, if_pos (p_tg S), q1, Option.bind_some, if_pos rfl]
        rw [tX3_isNumber, g3, Option.bind_some, if_pos (cc.mpr h2), g6, Option.bind_some, v2]
        by_cases g : v < lo
        · rw [if_pos ((n_lt (by omega) (by omega)).mpr g), J]
        · rw [if_neg (fun w => g ((n_lt (by omega) (by omega)).mp w)), Option.bind_some, if_neg (fun w => by have := (n_le (by omega) (by omega)).mp w; omega), J]
      · have ww : tX10_within (Int32.ofNat v) (Int32.ofNat lo) (Int32.ofNat hi) (rv M' r F) = some 0 := by
          rw [tX10_within]
          by_cases g : v < lo
          · rw [if_pos ((n_lt (by omega) (by omega)).mpr g)]
          · rw [if_neg (fun w => g ((n_lt (by omega) (by omega)).mp w)), if_pos ((n_lt (by omega) (by omega)).mpr (by omega))]
        rw [tX10_takes, r_gI, Option.bind_some, t2, if_c (v := 2) (b := 2) rfl (by omega) (by omega), if_pos h2, r_gI, Option.bind_some, v3, ww, Option.bind_some, if_pos rfl, if_pos r_tag, q2, Option.bind_some, if_pos fz0]
  · left
    obtain ⟨P2, F2, q1, q2, q3⟩ := fail_B 1 S t0 h11
    refine ⟨P2, F2, ?_, ?_, q3⟩
    · rw [tX3_isNumber, g3, Option.bind_some, if_neg (fun w => h2 (cc.mp w)), if_pos (p_tg S), q1, Option.bind_some, if_pos fz0]
    · rw [tX10_takes, r_gI, Option.bind_some, t2, if_c (v := 2) (b := 2) rfl (by omega) (by omega), if_neg h2, if_pos r_tag, q2, Option.bind_some, if_pos fz0]
/-- a good step that eats a token -/
def good (x y d r len : Nat) (T : Nat → Nat) (G : Nat → Nat → Value) (Gs : Nat → Nat) (N M' : vMe) (P : Nat → Value) (D F : Nat → Nat → Value) (e : Nat) (P2 : Nat → Value) (F2 : Nat → Nat → Value) : Prop :=
  pS x y d r len T G (pv N y P2) M' P2 D F2 ∧ (∃ c p e2, tk Gs T len P2 F2 c p e2 ∧ e ≤ p) ∧ (∀ k, k < 3 ∨ 6 < k → P2 k = P k) ∧ (∀ i, i ≠ 0 → F2 i = F i) ∧ ∀ l, l < 6 ∨ 10 < l → F2 0 l = F 0 l
theorem next_G {c p e : Nat} (S : pS x y d r len T G N M' P D F) (t : tk Gs T len P F c p e) :
    ∃ P2 F2, tX3_toNextToken Gs y N = some ((), pv N y P2) ∧ tX10_advance r (rv M' r F) = some ((), rv M' r F2) ∧ good x y d r len T G Gs N M' P D F e P2 F2 := by
  obtain ⟨P2, F2, c2, p2, e2, q1, q2, q3, q4, q5, q6, q7, q8⟩ := next_P (Gs := Gs) S t.2.2.2.2.1 t.2.2.2.2.2.1 (tokC_e t.2.2.2.2.2.2.2.1 t.2.2.2.2.2.2.1).2.1
  exact ⟨P2, F2, q1, q2, q3, ⟨c2, p2, e2, q4, q5⟩, q6, q7, q8⟩
/-- the semicolon -/
theorem semi_P {c p e : Nat} (S : pS x y d r len T G N M' P D F) (t : tk Gs T len P F c p e) (hd : tkD Gs) (h11 : gt F 0 11 = 0) :
    (∃ P2 F2, tX3_passSemicolon Gs y N = some (0, pv N y P2) ∧ tX10_closes r (rv M' r F) = some (0, rv M' r F2) ∧ bad x y d r len T G N M' D F P2 F2) ∨
    (∃ P2 F2, c ≠ 0 ∧ tX3_passSemicolon Gs y N = some (1, pv N y P2) ∧ tX10_closes r (rv M' r F) = some (1, rv M' r F2) ∧ good x y d r len T G Gs N M' P D F e P2 F2) := by
  have b1 := S.2.1.1
  have c5 := tokC_5 t.2.2.2.2.2.2.2.1
  have g3 : gA N y 6 3 = some (Gs (tIx c)) := by rw [← b1.eq]; exact p_A t.1
  have cc : Gs (tIx c) = Gs 102 ↔ c = 3 := tIx_eq hd (j := 3) c5 (by omega)
  by_cases h3 : c = 3
  · right
    obtain ⟨P2, F2, q1, q2, q3⟩ := next_G S t
    refine ⟨P2, F2, by omega, ?_, ?_, q3⟩
    · rw [tX3_passSemicolon, g3, Option.bind_some, if_pos (cc.mpr h3), if_pos (p_tg S), q1, Option.bind_some]
    · rw [tX10_closes, r_gI, Option.bind_some, t.2.1, if_c (v := 3) (b := 3) rfl (by omega) (by omega), if_pos h3, tX10_closes_J15, if_pos r_tag, tX10_starts, if_neg n10, if_pos r_tag, q2, Option.bind_some, Option.bind_some, if_pos fz1]
  · left
    obtain ⟨P2, F2, q1, q2, q3⟩ := fail_B 1 S t h11
    refine ⟨P2, F2, ?_, ?_, q3⟩
    · rw [tX3_passSemicolon, g3, Option.bind_some, if_neg (fun w => h3 (cc.mp w)), if_pos (p_tg S), q1, Option.bind_some, if_pos fz0]
    · rw [tX10_closes, r_gI, Option.bind_some, t.2.1, if_c (v := 3) (b := 3) rfl (by omega) (by omega), if_neg h3, tX10_closes_J15, if_pos r_tag, tX10_starts, if_pos rfl, if_pos r_tag, q2, Option.bind_some, if_pos fz0, Option.bind_some, if_pos fz0]
end
