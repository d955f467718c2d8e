section
variable {M M' N : vMe} {x y r a d : Nat} {G F C D : Nat → Nat → Value} {P : Nat → Value} {T : Nat → Nat} {len : Nat} {Gs : Nat → Nat}
/-- the tokens are five things -/
def tkD (Gs : Nat → Nat) : Prop := ∀ i j, i < 5 → j < 5 → Gs (100 + i) = Gs (100 + j) → i = j
theorem tIx_eq (h : tkD Gs) {c j : Nat} (hc : c < 5) (hj : j < 5) : Gs (tIx c) = Gs (tIx j) ↔ c = j := by
  have g : ∀ c, c < 5 → ∃ i, i < 5 ∧ tIx c = 100 + i ∧ (i + 1 = c ∨ (i = 4 ∧ c = 0)) := fun c hc => by
    rcases (show c = 0 ∨ c = 1 ∨ c = 2 ∨ c = 3 ∨ c = 4 by omega) with rfl | rfl | rfl | rfl | rfl
    · exact ⟨4, by omega, rfl, by omega⟩
    · exact ⟨0, by omega, rfl, by omega⟩
    · exact ⟨1, by omega, rfl, by omega⟩
    · exact ⟨2, by omega, rfl, by omega⟩
    · exact ⟨3, by omega, rfl, by omega⟩
  constructor
  · intro e
    obtain ⟨i, i1, i2, i3⟩ := g c hc
    obtain ⟨k, k1, k2, k3⟩ := g j hj
    have := h i k i1 k1 (by rw [← i2, ← k2]; exact e)
    omega
  · rintro rfl; rfl
theorem tokC_5 {p c e : Nat} (h : tokC T len p c e) : c < 5 := by unfold tokC at h; omega
theorem tokC_e {p c e : Nat} (h : tokC T len p c e) (hp : p ≤ len) : p ≤ e ∧ e ≤ len ∧ (c ≠ 0 → p < e) ∧ (c = 0 → p = len) := by
  rcases h with ⟨h1, h2, h3⟩ | ⟨h1, h2, h3, h4⟩ | ⟨h1, h2, h3, h4, h5⟩ | ⟨h1, h2, h3, h4, h5⟩
  · omega
  · have := run_1 h3 h1 h2
    exact ⟨by omega, h3.2.1, fun _ => this, fun g => by omega⟩
  · have := run_1 h4 h1 h3
    exact ⟨by omega, h4.2.1, fun _ => this, fun g => by omega⟩
  · omega
theorem tokC_1 {p e : Nat} (h : tokC T len p 1 e) : run isL T len p e ∧ e - p ≤ 8 := by
  rcases h with ⟨h1, h2, h3⟩ | ⟨h1, h2, h3, h4⟩ | ⟨h1, h2, h3, h4, h5⟩ | ⟨h1, h2, h3, h4, h5⟩
  · omega
  · exact ⟨h3, by omega⟩
  · omega
  · omega
/-- the token that stands on both sides -/
def tk (Gs T : Nat → Nat) (len : Nat) (P : Nat → Value) (F : Nat → Nat → Value) (c p e : Nat) : Prop :=
  P 3 = .ref (Gs (tIx c)) ∧ gt F 0 8 = Int32.ofNat c ∧ vI (P 4) = Int32.ofNat p ∧ gt F 0 6 = Int32.ofNat p ∧ vI (P 5) = Int32.ofNat e ∧ gt F 0 7 = Int32.ofNat e ∧ p ≤ len ∧ tokC T len p c e ∧
  (c = 2 → ∃ v, v < 1000 ∧ vI (P 6) = Int32.ofNat v ∧ gt F 0 9 = Int32.ofNat v) ∧ (c = 1 → vJ (F 0 10) = pk (fun i => T (p + i)) (e - p))
theorem dv_lt {B : Nat → Nat} : ∀ n, (∀ i, i < n → B i ≤ 57) → dv B n < 10 ^ n := by
  intro n
  induction n with
  | zero => intro _; simp [dv]
  | succ n ih =>
    intro h
    have h1 := ih (fun i hi => h i (by omega))
    have h2 := h n (by omega)
    rw [dv, Nat.pow_succ]; omega
/-- the parse's world, on both sides -/
def pS (x y d r len : Nat) (T : Nat → Nat) (G : Nat → Nat → Value) (N M' : vMe) (P : Nat → Value) (D F : Nat → Nat → Value) : Prop :=
  (hG N x G ∧ gOk N x G ∧ gX G T ∧ len ≤ 600) ∧ (hY N y P ∧ pOk x len P ∧ P 2 = .ref d ∧ N.2.2.2 ≤ y) ∧ (hB N d D ∧ cOk N d D) ∧ (rOk M' r F ∧ tX F T ∧ gt F 0 5 = Int32.ofNat len) ∧ ((y < x ∨ x + 8 ≤ y) ∧ (y < d ∨ d + 50 ≤ y) ∧ x + 8 ≤ d)
/-- both sides go to the next token -/
theorem next_P {e : Nat} (S : pS x y d r len T G N M' P D F) (h5 : vI (P 5) = Int32.ofNat e) (h7 : gt F 0 7 = Int32.ofNat e) (he : e ≤ len) :
    ∃ P2 F2 c p e2, tX3_toNextToken Gs y N = some ((), pv N y P2) ∧ tX10_advance r (rv M' r F) = some ((), rv M' r F2) ∧ pS x y d r len T G (pv N y P2) M' P2 D F2 ∧ tk Gs T len P2 F2 c p e2 ∧ e ≤ p ∧ (∀ k, k < 3 ∨ 6 < k → P2 k = P k) ∧ (∀ i, i ≠ 0 → F2 i = F i) ∧ ∀ l, l < 6 ∨ 10 < l → F2 0 l = F 0 l := by
  obtain ⟨⟨a1, a2, a3, a4⟩, ⟨b1, b2, b3, b4⟩, ⟨c1, c2⟩, ⟨d1, d2, d3⟩, ⟨g1, g2, g3⟩⟩ := S
  obtain ⟨P2, c, p, e2, p1, p2, p3, p4, p5, p6, p7, p8, p9⟩ := c_tok (Gs := Gs) a1 a2 a3 g1 b4 a4 b1 b2 h5 he
  obtain ⟨F2, c', p', e2', q1, q2, q3, q4, q5, q6, q7, q8, q9, q10, q11⟩ := r_tok a4 d1 d2 d3 h7 he
  have ep : p = p' := run_u p6 q6
  subst ep
  obtain ⟨ec, ee⟩ := tokC_u p7 q7
  subst ec; subst ee
  refine ⟨P2, F2, c, p, e2, p1, q1, ⟨⟨a1.pv g1, a2, a3, a4⟩, ⟨hY_pv, p2, by rw [p9 2 (by omega)]; exact b3, b4⟩, ⟨fun i hi => by rw [pv_out (by omega)]; exact c1 i hi, c2⟩, ⟨q2, d2.row (q10 3 (by omega)), by unfold gt; rw [q11 5 (by omega)]; exact d3⟩, ⟨g1, g2, g3⟩⟩, ⟨p5, q5, p3, q3, p4, q4, p6.2.1, p7, fun h => ⟨dv (fun i => T (p + i)) (e2 - p), ?_, p8 h, q8 h⟩, q9⟩, p6.1, p9, q10, q11⟩
  have h3 : e2 - p ≤ 3 ∧ ∀ i, p ≤ i → i < e2 → isD (T i) := by
    rcases p7 with ⟨h1, h2, h3⟩ | ⟨h1, h2, h3, h4⟩ | ⟨h1, h2, h3, h4, h5⟩ | ⟨h1, h2, h3, h4, h5⟩
    · omega
    · omega
    · exact ⟨by omega, h4.2.2.1⟩
    · omega
  have l1 := dv_lt (B := fun i => T (p + i)) (e2 - p) (fun i hi => (h3.2 (p + i) (by omega) (by omega)).2)
  have l2 : 10 ^ (e2 - p) ≤ 10 ^ 3 := Nat.pow_le_pow_right (by omega) h3.1
  omega
/-- both sides fail -/
theorem fail_P {c p e : Nat} {j : Int32} (S : pS x y d r len T G N M' P D F) (t : tk Gs T len P F c p e) (h11 : gt F 0 11 = 0) :
    ∃ P2 F2, tX3_fail y j N = some (0, pv N y P2) ∧ tX10_fails r j (rv M' r F) = some (0, rv M' r F2) ∧ pS x y d r len T G (pv N y P2) M' P2 D F2 ∧ vI (P2 7) = j ∧ gt F2 0 11 = j ∧ vI (P2 8) = gt F2 0 12 ∧ (∀ k, k < 7 → P2 k = P k) ∧ (∀ i, i ≠ 0 → F2 i = F i) ∧ ∀ l, l ≠ 11 → l ≠ 12 → F2 0 l = F 0 l := by
  obtain ⟨⟨a1, a2, a3, a4⟩, ⟨b1, b2, b3, b4⟩, ⟨c1, c2⟩, ⟨d1, d2, d3⟩, ⟨g1, g2, g3⟩⟩ := S
  have f11 : ∀ j, rFld j ≠ 11 := fun j => by unfold rFld; split <;> omega
  have f12 : ∀ j, rFld j ≠ 12 := fun j => by unfold rFld; split <;> omega
  have s7 : sV N y 6 7 (.int j) = some (pv N y (updV P 7 (.int j))) := by
    have := p_S (M := N) (y := y) (P := P) (k := 7) (v := .int j) b4
    rw [b1.eq] at this; exact this
  have o1 : rOk M' r (pu F 0 11 (.int j)) := rOk_0 d1 f11
  refine ⟨updV (updV P 7 (.int j)) 8 (.int (Int32.ofNat p)), pu (pu F 0 11 (.int j)) 0 12 (.int (Int32.ofNat p)), ?_, ?_, ⟨⟨a1.pv g1, a2, a3, a4⟩, ⟨hY_pv, (b2.up (by omega)).up (by omega), by rw [u_ne (by omega), u_ne (by omega)]; exact b3, b4⟩, ⟨fun i hi => by rw [pv_out (by omega)]; exact c1 i hi, c2⟩, ⟨rOk_0 o1 f12, d2.row (by rw [pu_o (by omega), pu_o (by omega)]), by rw [gt_ne (by omega), gt_ne (by omega)]; exact d3⟩, ⟨g1, g2, g3⟩⟩, by rw [u_ne (by omega), u_eq]; rfl, by rw [gt_ne (by omega), gt_eq], by rw [u_eq, gt_eq]; rfl, fun k hk => by rw [u_ne (by omega), u_ne (by omega)], fun i hi => by rw [pu_o hi, pu_o hi], fun l h1 h2 => by rw [pu_ne (by omega), pu_ne (by omega)]⟩
  · rw [tX3_fail, s7, Option.bind_some, p_I, Option.bind_some, u_ne (by omega), t.2.2.1, p_S b4, Option.bind_some]
  · rw [tX10_fails, r_gI, Option.bind_some, h11, if_pos rfl, r_sV _ d1, Option.bind_some, r_gI, Option.bind_some, gt_ne (by omega), t.2.2.2.1, r_sV _ o1, Option.bind_some]
/-! is the token this word? -/
def wS (M : vMe) (r w : Nat) (l : List Nat) : Prop := ∃ p, tAt M w p l ∧ ¬ (r ≤ w ∧ w < r + 10) ∧ ¬ (r ≤ p ∧ p < r + 10)
theorem c_isWord {c p e w o : Nat} {l : List Nat} (S : pS x y d r len T G N M' P D F) (t : tk Gs T len P F c p e) (hd : tkD Gs) (hw : tAt N w o l) : (c = 1 ∧ hN T p e l → tX3_isWord Gs y w N = some (1, N)) ∧ (¬ (c = 1 ∧ hN T p e l) → tX3_isWord Gs y w N = some (0, N)) := by
  obtain ⟨⟨a1, a2, a3, a4⟩, ⟨b1, b2, b3, b4⟩, -, -, -⟩ := S
  obtain ⟨t1, t2, t3, t4, t5, t6, t7, t8, t9, t10⟩ := t
  have c5 := tokC_5 t8
  have ce := tokC_e t8 t7
  have g3 : gA N y 6 3 = some (Gs (tIx c)) := by rw [← b1.eq]; exact p_A t1
  have g0 : gA N y 6 0 = some (x + 1) := by rw [← b1.eq]; exact p_A b2.1
  have g4 : gI N y 6 4 = some (Int32.ofNat p) := by rw [← b1.eq, p_I, t3]
  have g5 : gI N y 6 5 = some (Int32.ofNat e) := by rw [← b1.eq, p_I, t5]
  have cc : Gs (tIx c) = Gs 100 ↔ c = 1 := tIx_eq hd (j := 1) c5 (by omega)
  obtain ⟨k1, k2⟩ := c_holds (Gs := Gs) (s := p) (e := e) a1 a2 a3 hw (by omega) ce.1
  rw [tX3_isWord, g3, Option.bind_some]
  by_cases h1 : c = 1
  · rw [if_pos (cc.mpr h1), g0, Option.bind_some, g4, Option.bind_some, g5, Option.bind_some, if_pos (T_in a1)]
    by_cases h2 : hN T p e l
    · rw [k1 h2, Option.bind_some, if_neg n10]
      exact ⟨fun _ => rfl, fun g => absurd ⟨h1, h2⟩ g⟩
    · rw [k2 h2, Option.bind_some, if_pos rfl]
      exact ⟨fun g => absurd g.2 h2, fun _ => rfl⟩
  · rw [if_neg (fun g => h1 (cc.mp g))]
    exact ⟨fun g => absurd g.1 h1, fun _ => rfl⟩
theorem r_isWord_L {w o p : Nat} {l : List Nat} (hr : rOk M r F) (hT : tX F T) (h6 : gt F 0 6 = Int32.ofNat p) (hw : tAt (rv M r F) w o l) (hl : p + l.length ≤ 600) : ∀ (q f i : Nat), i + q = l.length → q < f →
    ((∀ j, i ≤ j → j < l.length → T (p + j) = l.getD j 0) → tX10_isWord_L32 Gs r w f 1 (Int32.ofNat i) (rv M r F) = some (1, rv M r F)) ∧ (¬ (∀ j, i ≤ j → j < l.length → T (p + j) = l.getD j 0) → tX10_isWord_L32 Gs r w f 1 (Int32.ofNat i) (rv M r F) = some (0, rv M r F)) := by
  have hlt : ∀ j, j < l.length → l.getD j 0 < 128 := fun j hj => by obtain ⟨S, B, g1, g2, g3, g4, g5, g6⟩ := hw; exact (g6 j hj).2
  have tg : ((rv M r F).1 w).1 = 1 := by obtain ⟨S, B, g1, -⟩ := hw; rw [g1]
  have z0 : ∀ (f i : Nat), i ≤ l.length → 0 < f → tX10_isWord_L32 Gs r w f 0 (Int32.ofNat i) (rv M r F) = some (0, rv M r F) := fun f i hi hf => by
    obtain ⟨f, rfl⟩ : ∃ g, f = g + 1 := ⟨f - 1, by omega⟩
    rw [tX10_isWord_L32, if_pos tg, t_len hw, Option.bind_some]
    by_cases g : Int32.ofNat l.length ≤ Int32.ofNat i
    · rw [if_pos g]
    · rw [if_neg g, if_pos rfl]
  intro q
  induction q with
  | zero =>
    intro f i hi hf
    obtain ⟨f, rfl⟩ : ∃ g, f = g + 1 := ⟨f - 1, by omega⟩
    refine ⟨fun _ => ?_, fun g => absurd (fun j j1 j2 => by omega) g⟩
    rw [tX10_isWord_L32, if_pos tg, t_len hw, Option.bind_some, if_pos ((n_le (by omega) (by omega)).mpr (by omega))]
  | succ q ih =>
    intro f i hi hf
    obtain ⟨f, rfl⟩ : ∃ g, f = g + 1 := ⟨f - 1, by omega⟩
    have hq := hT (p + i) (by omega)
    have ce : gt F 3 (p + i) = Int32.ofNat (l.getD i 0) ↔ T (p + i) = l.getD i 0 := by rw [← hq.2]; exact cd_eq (hlt i (by omega)) hq.1
    have st : tX10_isWord_L32 Gs r w (f + 1) 1 (Int32.ofNat i) (rv M r F) = if T (p + i) = l.getD i 0 then tX10_isWord_L32 Gs r w f 1 (Int32.ofNat (i + 1)) (rv M r F) else tX10_isWord_L32 Gs r w f 0 (Int32.ofNat (i + 1)) (rv M r F) := by
      rw [tX10_isWord_L32, if_pos tg, t_len hw, Option.bind_some, if_neg (fun g => by have := (n_le (by omega) (by omega)).mp g; omega), if_neg n10, rA3 hr, Option.bind_some, r_gI, Option.bind_some, h6, n_add, r_tI (by omega), Option.bind_some, if_pos tg, t_char hw (by omega), Option.bind_some]
      by_cases g : T (p + i) = l.getD i 0
      · rw [if_pos g, if_pos (ce.mpr g), tX10_isWord_J68_32, n_succ]
      · rw [if_neg g, if_neg (fun w => g (ce.mp w)), tX10_isWord_J68_32, n_succ]
    rw [st]
    obtain ⟨k1, k2⟩ := ih f (i + 1) (by omega) (by omega)
    by_cases g : T (p + i) = l.getD i 0
    · rw [if_pos g]
      refine ⟨fun y => k1 (fun j j1 j2 => y j (by omega) j2), fun y => k2 (fun z => y (fun j j1 j2 => ?_))⟩
      by_cases e : j = i
      · rw [e]; exact g
      · exact z j (by omega) j2
    · rw [if_neg g, z0 f (i + 1) (by omega) (by omega)]
      exact ⟨fun y => absurd (y i (Nat.le_refl _) (by omega)) g, fun _ => rfl⟩
theorem r_isWord {c p e w : Nat} {l : List Nat} (S : pS x y d r len T G N M' P D F) (t : tk Gs T len P F c p e) (hw : wS M' r w l) : (c = 1 ∧ hN T p e l → tX10_isWord Gs r w (rv M' r F) = some (1, rv M' r F)) ∧ (¬ (c = 1 ∧ hN T p e l) → tX10_isWord Gs r w (rv M' r F) = some (0, rv M' r F)) := by
  obtain ⟨⟨a1, a2, a3, a4⟩, -, -, ⟨d1, d2, d3⟩, -⟩ := S
  obtain ⟨t1, t2, t3, t4, t5, t6, t7, t8, t9, t10⟩ := t
  have c5 := tokC_5 t8
  have ce := tokC_e t8 t7
  obtain ⟨o, o1, o2, o3⟩ := hw
  have o4 : tAt (rv M' r F) w o l := o1.same (rv_out o2) (rv_out o3)
  have tg : ((rv M' r F).1 w).1 = 1 := by obtain ⟨S, B, g1, -⟩ := o4; rw [g1]
  have l16 : l.length < 65536 := by obtain ⟨S, B, g1, g2, g3, g4, g5, g6⟩ := o4; exact g5
  have J0 : tX10_isWord_J28 Gs r w (rv M' r F) = some (0, rv M' r F) := by
    obtain ⟨f, hf⟩ : ∃ f, vF = f + 1 := ⟨vF - 1, by unfold vF; omega⟩
    have L : tX10_isWord_L32 Gs r w vF 0 0 (rv M' r F) = some (0, rv M' r F) := by
      rw [hf, tX10_isWord_L32, if_pos tg, t_len o4, Option.bind_some]
      by_cases g : Int32.ofNat l.length ≤ 0
      · rw [if_pos g]
      · rw [if_neg g, if_pos rfl]
    rw [tX10_isWord_J28, tX10_isWord_J29, L, Option.bind_some, if_pos fz0]
  rw [tX10_isWord, r_gI, Option.bind_some, t2, if_c (v := 1) (b := 1) rfl (by omega) (by omega)]
  by_cases h1 : c = 1
  · rw [if_pos h1, r_gI, Option.bind_some, r_gI, Option.bind_some, t6, t4, if_pos tg, t_len o4, Option.bind_some, n_sub ce.1]
    by_cases h2 : e - p = l.length
    · rw [if_pos (by rw [h2])]
      obtain ⟨k1, k2⟩ := r_isWord_L (Gs := Gs) d1 d2 t4 o4 (by omega) l.length vF 0 (by omega) (by unfold vF; omega)
      refine ⟨fun g => ?_, fun g => ?_⟩
      · rw [tX10_isWord_J29, show tX10_isWord_L32 Gs r w vF 1 0 (rv M' r F) = _ from k1 (fun j _ j2 => g.2.2 j j2), Option.bind_some, if_pos fz1]
      · rw [tX10_isWord_J29, show tX10_isWord_L32 Gs r w vF 1 0 (rv M' r F) = _ from k2 (fun z => g ⟨h1, h2, fun j j2 => z j (by omega) j2⟩), Option.bind_some, if_pos fz0]
    · rw [if_neg (fun g => h2 ((n_eq (by omega) (by omega)).mp g)), J0]
      exact ⟨fun g => absurd g.2.1 h2, fun _ => rfl⟩
  · rw [if_neg h1, J0]
    exact ⟨fun g => absurd g.1 h1, fun _ => rfl⟩
end
