section
variable {M M' N : vMe} {x y r a d : Nat} {G F C D : Nat → Nat → Value} {P : Nat → Value} {T : Nat → Nat} {len : Nat} {Gs : Nat → Nat}
/-- the tokens are five things -/
def tkD (Gs : Nat → Nat) : Prop := ∀ i j, i < 5 → j < 5 → Gs (100 + i) = Gs (100 + j) → i = j
theorem tIx_eq (h : tkD Gs) {c j : Nat} (hc : c < 5) (hj : j < 5) : Gs (tIx c) = Gs (tIx j) ↔ c = j := by
  have g : ∀ c, c < 5 → ∃ i, i < 5 ∧ tIx c = 100 + i ∧ (i + 1 = c ∨ (i = 4 ∧ c = 0)) := fun c hc => by
    rcases (show c = 0 ∨ c = 1 ∨ c = 2 ∨ c = 3 ∨ c = 4 by omega) with rfl | rfl | rfl | rfl | rfl
    · exact ⟨4, by omega, rfl, by omega⟩
    · exact ⟨0, by omega, rfl, by omega⟩
    · exact ⟨1, by omega, rfl, by omega⟩
    · exact ⟨2, by omega, rfl, by omega⟩
    · exact ⟨3, by omega, rfl, by omega⟩
  constructor
  · intro e
    obtain ⟨i, i1, i2, i3⟩ := g c hc
    obtain ⟨k, k1, k2, k3⟩ := g j hj
    have := h i k i1 k1 (by rw [← i2, ← k2]; exact e)
    omega
  · rintro rfl; rfl
theorem tokC_5 {p c e : Nat} (h : tokC T len p c e) : c < 5 := by unfold tokC at h; omega
theorem tokC_e {p c e : Nat} (h : tokC T len p c e) (hp : p ≤ len) : p ≤ e ∧ e ≤ len ∧ (c ≠ 0 → p < e) ∧ (c = 0 → p = len) := by
  rcases h with ⟨h1, h2, h3⟩ | ⟨h1, h2, h3, h4⟩ | ⟨h1, h2, h3, h4, h5⟩ | ⟨h1, h2, h3, h4, h5⟩
  · omega
  · have := run_1 h3 h1 h2
    exact ⟨by omega, h3.2.1, fun _ => this, fun g => by omega⟩
  · have := run_1 h4 h1 h3
    exact ⟨by omega, h4.2.1, fun _ => this, fun g => by omega⟩
  · omega
theorem tokC_1 {p e : Nat} (h : tokC T len p 1 e) : run isL T len p e ∧ e - p ≤ 8 := by
  rcases h with ⟨h1, h2, h3⟩ | ⟨h1, h2, h3, h4⟩ | ⟨h1, h2, h3, h4, h5⟩ | ⟨h1, h2, h3, h4, h5⟩
  · omega
  · exact ⟨h3, by omega⟩
  · omega
  · omega
/-- the token that stands on both sides -/
def tk (Gs T : Nat → Nat) (len : Nat) (P : Nat → Value) (F : Nat → Nat → Value) (c p e : Nat) : Prop :=
  P 3 = .ref (Gs (tIx c)) ∧ gt F 0 8 = Int32.ofNat c ∧ vI (P 4) = Int32.ofNat p ∧ gt F 0 6 = Int32.ofNat p ∧ vI (P 5) = Int32.ofNat e ∧ gt F 0 7 = Int32.ofNat e ∧ p ≤ len ∧ tokC T len p c e ∧
  (c = 2 → ∃ v, v < 1000 ∧ vI (P 6) = Int32.ofNat v ∧ gt F 0 9 = Int32.ofNat v) ∧ (c = 1 → vJ (F 0 10) = pk (fun i => T (p + i)) (e - p))
theorem dv_lt {B : Nat → Nat} : ∀ n, (∀ i, i < n → B i ≤ 57) → dv B n < 10 ^ n := by
  intro n
  induction n with
  | zero => intro _; simp [dv]
  | succ n ih =>
    intro h
    have h1 := ih (fun i hi => h i (by omega))
    have h2 := h n (by omega)
    rw [dv, Nat.pow_succ]; omega
/-- the parse's world, on both sides -/
def pS (x y d r len : Nat) (T : Nat → Nat) (G : Nat → Nat → Value) (N M' : vMe) (P : Nat → Value) (D F : Nat → Nat → Value) : Prop :=
  (hG N x G ∧ gOk N x G ∧ gX G T ∧ len ≤ 600) ∧ (hY N y P ∧ pOk x len P ∧ P 2 = .ref d ∧ N.2.2.2 ≤ y) ∧ (hB N d D ∧ cOk N d D) ∧ (rOk M' r F ∧ tX F T ∧ gt F 0 5 = Int32.ofNat len) ∧ ((y < x ∨ x + 8 ≤ y) ∧ (y < d ∨ d + 50 ≤ y) ∧ x + 8 ≤ d)
/-! is the token this word? -/
def wS (M : vMe) (r w : Nat) (l : List Nat) : Prop := ∃ p, tAt M w p l ∧ ¬ (r ≤ w ∧ w < r + 0) ∧ ¬ (r ≤ p ∧ p < r + 0)
theorem c_isWord {c p e w o : Nat} {l : List Nat} (S : pS x y d r len T G N M' P D F) (t : tk Gs T len P F c p e) (hd : tkD Gs) (hw : tAt N w o l) : (c = 1 ∧ hN T p e l → tX3_isWord Gs y w N = some (1, N)) ∧ (¬ (c = 1 ∧ hN T p e l) → tX3_isWord Gs y w N = some (0, N)) := by
  obtain ⟨⟨a1, a2, a3, a4⟩, ⟨b1, b2, b3, b4⟩, -, -, -⟩ := S
  obtain ⟨t1, t2, t3, t4, t5, t6, t7, t8, t9, t10⟩ := t
  have c5 := tokC_5 t8
  have ce := tokC_e t8 t7
  have g3 : gA N y 6 3 = some (Gs (tIx c)) := by rw [← b1.eq]; exact p_A t1
  have g0 : gA N y 6 0 = some (x + 1) := by rw [← b1.eq]; exact p_A b2.1
  have g4 : gI N y 6 4 = some (Int32.ofNat p) := by rw [← b1.eq, p_I, t3]
  have g5 : gI N y 6 5 = some (Int32.ofNat e) := by rw [← b1.eq, p_I, t5]
  have cc : Gs (tIx c) = Gs 100 ↔ c = 1 := tIx_eq hd (j := 1) c5 (by omega)
  obtain ⟨k1, k2⟩ := c_holds (Gs := Gs) (s := p) (e := e) a1 a2 a3 hw (by omega) ce.1
  rw [tX3_isWord, g3, Option.bind_some]
  by_cases h1 : c = 1
  · rw [if_pos (cc.mpr h1), g0, Option.bind_some, g4, Option.bind_some, g5, Option.bind_some, if_pos (T_in a1)]
    by_cases h2 : hN T p e l
    · rw [k1 h2, Option.bind_some, if_neg n10]
      exact ⟨fun _ => rfl, fun g => absurd ⟨h1, h2⟩ g⟩
    · rw [k2 h2, Option.bind_some, if_pos rfl]
      exact ⟨fun g => absurd g.2 h2, fun _ => rfl⟩
  · rw [if_neg (fun g => h1 (cc.mp g))]
    exact ⟨fun g => absurd g.1 h1, fun _ => rfl⟩
end
