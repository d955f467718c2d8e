section
variable {M M' N : vMe} {x y r a d : Nat} {G F C D : Nat → Nat → Value} {P : Nat → Value} {T : Nat → Nat} {len : Nat} {Gs : Nat → Nat}
/-! the halves of a token -/
def ck (Gs T : Nat → Nat) (len : Nat) (P : Nat → Value) (e0 c p e : Nat) : Prop :=
  P 3 = .ref (Gs (tIx c)) ∧ vI (P 4) = Int32.ofNat p ∧ vI (P 5) = Int32.ofNat e ∧ run isB T len e0 p ∧ tokC T len p c e ∧ (c = 2 → vI (P 6) = Int32.ofNat (dv (fun i => T (p + i)) (e - p)))
def rk (T : Nat → Nat) (len : Nat) (F : Nat → Nat → Value) (e0 c p e : Nat) : Prop :=
  gt F 0 8 = Int32.ofNat c ∧ gt F 0 6 = Int32.ofNat p ∧ gt F 0 7 = Int32.ofNat e ∧ run isB T len e0 p ∧ tokC T len p c e ∧ (c = 2 → gt F 0 9 = Int32.ofNat (dv (fun i => T (p + i)) (e - p))) ∧ (c = 1 → vJ (F 0 10) = pk (fun i => T (p + i)) (e - p))
theorem rk.row {F2 : Nat → Nat → Value} {e0 c p e : Nat} (h : rk T len F e0 c p e) (g : ∀ l, 6 ≤ l → l ≤ 10 → F2 0 l = F 0 l) : rk T len F2 e0 c p e := by
  obtain ⟨h1, h2, h3, h4, h5, h6, h7⟩ := h
  exact ⟨by unfold gt; rw [g 8 (by omega) (by omega)]; exact h1, by unfold gt; rw [g 6 (by omega) (by omega)]; exact h2, by unfold gt; rw [g 7 (by omega) (by omega)]; exact h3, h4, h5, fun c => by unfold gt; rw [g 9 (by omega) (by omega)]; exact h6 c, fun c => by rw [g 10 (by omega) (by omega)]; exact h7 c⟩
theorem tk_join {e0 c p e c' p' e' : Nat} (h : ck Gs T len P e0 c p e) (g : rk T len F e0 c' p' e') : tk Gs T len P F c p e ∧ e0 ≤ p := by
  obtain ⟨h1, h2, h3, h4, h5, h6⟩ := h
  obtain ⟨g1, g2, g3, g4, g5, g6, g7⟩ := g
  have ep : p = p' := run_u h4 g4
  subst ep
  obtain ⟨ec, ee⟩ := tokC_u h5 g5
  subst ec; subst ee
  refine ⟨⟨h1, g1, h2, g2, h3, g3, h4.2.1, h5, fun w => ⟨dv (fun i => T (p + i)) (e - p), ?_, h6 w, g6 w⟩, g7⟩, h4.1⟩
  have q3 : e - p ≤ 3 ∧ ∀ i, p ≤ i → i < e → isD (T i) := by
    rcases h5 with ⟨k1, k2, k3⟩ | ⟨k1, k2, k3, k4⟩ | ⟨k1, k2, k3, k4, k5⟩ | ⟨k1, k2, k3, k4, k5⟩
    · omega
    · omega
    · exact ⟨by omega, k4.2.2.1⟩
    · omega
  have l1 := dv_lt (B := fun i => T (p + i)) (e - p) (fun i hi => (q3.2 (p + i) (by omega) (by omega)).2)
  have l2 : 10 ^ (e - p) ≤ 10 ^ 3 := Nat.pow_le_pow_right (by omega) q3.1
  omega
/-- the class alone goes on -/
theorem c_next {e : Nat} (S : pS x y d r len T G N M' P D F) (h5 : vI (P 5) = Int32.ofNat e) (he : e ≤ len) :
    ∃ P2 c p e2, tX3_toNextToken Gs y N = some ((), pv N y P2) ∧ pS x y d r len T G (pv N y P2) M' P2 D F ∧ ck Gs T len P2 e c p e2 ∧ ∀ k, k < 3 ∨ 6 < k → P2 k = P k := by
  obtain ⟨⟨a1, a2, a3, a4⟩, ⟨b1, b2, b3, b4⟩, ⟨c1, c2⟩, hd, ⟨g1, g2, g3⟩⟩ := S
  obtain ⟨P2, c, p, e2, p1, p2, p3, p4, p5, p6, p7, p8, p9⟩ := c_tok (Gs := Gs) a1 a2 a3 g1 b4 a4 b1 b2 h5 he
  exact ⟨P2, c, p, e2, p1, ⟨⟨a1.pv g1, a2, a3, a4⟩, ⟨hY_pv, p2, by rw [p9 2 (by omega)]; exact b3, b4⟩, ⟨fun i hi => by rw [pv_out (by omega)]; exact c1 i hi, c2⟩, hd, ⟨g1, g2, g3⟩⟩, ⟨p5, p3, p4, p6, p7, p8⟩, p9⟩
/-- what a failure leaves -/
def er (P : Nat → Value) (F : Nat → Nat → Value) : Prop := vI (P 7) = gt F 0 11 ∧ vI (P 8) = gt F 0 12
/-- a failed step: P2, F2 out of P, F -/
def bad (x y d r len : Nat) (T : Nat → Nat) (G : Nat → Nat → Value) (N M' : vMe) (D F : Nat → Nat → Value) (P2 : Nat → Value) (F2 : Nat → Nat → Value) : Prop :=
  pS x y d r len T G (pv N y P2) M' P2 D F2 ∧ er P2 F2 ∧ (∀ i, i ≠ 0 → F2 i = F i) ∧ ∀ l, l < 6 ∨ 16 < l → F2 0 l = F 0 l
theorem p_tg (S : pS x y d r len T G N M' P D F) : (N.1 y).1 = 6 := by rw [S.2.1.1]
/-- a good step that eats a token -/
def good (x y d r len : Nat) (T : Nat → Nat) (G : Nat → Nat → Value) (Gs : Nat → Nat) (N M' : vMe) (P : Nat → Value) (D F : Nat → Nat → Value) (e : Nat) (P2 : Nat → Value) (F2 : Nat → Nat → Value) : Prop :=
  pS x y d r len T G (pv N y P2) M' P2 D F2 ∧ (∃ c p e2, tk Gs T len P2 F2 c p e2 ∧ e ≤ p) ∧ (∀ k, k < 3 ∨ 6 < k → P2 k = P k) ∧ (∀ i, i ≠ 0 → F2 i = F i) ∧ ∀ l, l < 6 ∨ 10 < l → F2 0 l = F 0 l
end
