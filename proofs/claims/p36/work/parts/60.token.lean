section
variable {M : vMe} {x y r a d : Nat} {G F C : Nat → Nat → Value} {P : Nat → Value} {T : Nat → Nat} {len : Nat}
/-! the parser's object -/
def pv (M : vMe) (y : Nat) (P : Nat → Value) : vMe := (fun q => if q = y then (6, 0, P) else M.1 q, M.2)
theorem pv_at : (pv M y P).1 y = (6, 0, P) := by simp [pv]
theorem pv_out {q : Nat} (h : q ≠ y) : (pv M y P).1 q = M.1 q := by simp [pv, h]
theorem p_tag : ((pv M y P).1 y).1 = 6 := by rw [pv_at]
theorem p_I {k : Nat} : gI (pv M y P) y 6 k = some (vI (P k)) := by simp [gI, pv_at]
theorem p_A {k v : Nat} (h : P k = .ref v) : gA (pv M y P) y 6 k = some v := by simp [gA, pv_at, h, vR]
theorem p_S {k : Nat} {v : Value} (h : M.2.2.2 ≤ y) : sV (pv M y P) y 6 k v = some (pv M y (updV P k v)) := by
  have e : wr (pv M y P) y k v = pv M y (updV P k v) := by
    refine Prod.ext (funext fun q => ?_) rfl
    by_cases g : q = y
    · subst g; simp [wr, pv, pt]
    · simp [wr, pv, pt, g]
  have hb : (pv M y P).2.2.2 ≤ y := h
  simp [sV, pv_at, hb, e]
theorem u_eq {k : Nat} {v : Value} : updV P k v k = v := by simp [updV]
theorem u_ne {k j : Nat} {v : Value} (h : j ≠ k) : updV P k v j = P j := by simp [updV, h]
theorem hG.pv (h : hG M x G) (hy : y < x ∨ x + 8 ≤ y) : hG (pv M y P) x G := fun i hi => by rw [pv_out (by omega)]; exact h i hi
def pOk (x len : Nat) (P : Nat → Value) : Prop := P 0 = .ref (x + 1) ∧ vI (P 1) = Int32.ofNat len
def isB (c : Nat) : Prop := c = 32 ∨ c = 10
def isD (c : Nat) : Prop := 48 ≤ c ∧ c ≤ 57
/-- a run of bytes of one kind -/
def run (Q : Nat → Prop) (T : Nat → Nat) (len p e : Nat) : Prop := p ≤ e ∧ e ≤ len ∧ (∀ i, p ≤ i → i < e → Q (T i)) ∧ (e < len → ¬ Q (T e))
theorem run_u {Q : Nat → Prop} {p e e' : Nat} (h : run Q T len p e) (g : run Q T len p e') : e = e' := by
  obtain ⟨h1, h2, h3, h4⟩ := h
  obtain ⟨g1, g2, g3, g4⟩ := g
  rcases Nat.lt_trichotomy e e' with c | c | c
  · exact absurd (g3 e h1 c) (h4 (by omega))
  · exact c
  · exact absurd (h3 e' g1 c) (g4 (by omega))
theorem run_st {Q : Nat → Prop} {p e e' : Nat} (hp : p ≤ e) (hL : ∀ i, p ≤ i → i < e → Q (T i)) (g : run Q T len e e') : run Q T len p e' := ⟨by have := g.1; omega, g.2.1, fun i i1 i2 => by
  by_cases q : i < e
  · exact hL i i1 q
  · exact g.2.2.1 i (by omega) i2, g.2.2.2⟩
/-! the tests of the class -/
theorem c_rd {i : Nat} (hg : hG M x G) (gO : gOk M x G) (hi : i < 600) : gA M (x + 1) 4 0 = some (x + 2) ∧ aI M (x + 2) 102 (Int32.ofNat i) = some (gt G 2 i) := ⟨by rw [← hg.eq]; exact g_t0 gO, by rw [← hg.eq]; exact g_tI hi⟩
theorem c_isB {i : Nat} (hg : hG M x G) (gO : gOk M x G) (hX : gX G T) (hi : i < 600) : (isB (T i) → tX1_isBlank (x + 1) (Int32.ofNat i) M = some 1) ∧ (¬ isB (T i) → tX1_isBlank (x + 1) (Int32.ofNat i) M = some 0) := by
  obtain ⟨r1, r2⟩ := c_rd hg gO hi
  obtain ⟨h1, h2⟩ := hX i hi
  have e1 : gt G 2 i = 32 ↔ T i = 32 := by rw [← h2]; exact cd_eq (j := 32) (by omega) h1
  have e2 : gt G 2 i = 10 ↔ T i = 10 := by rw [← h2]; exact cd_eq (j := 10) (by omega) h1
  unfold isB
  rw [tX1_isBlank, r1, Option.bind_some, r2, Option.bind_some]
  by_cases g : T i = 32
  · rw [if_pos (e1.mpr g)]; exact ⟨fun _ => rfl, fun c => absurd (.inl g) c⟩
  · rw [if_neg (fun c => g (e1.mp c)), Option.bind_some, r2, Option.bind_some]
    by_cases g2 : T i = 10
    · rw [if_pos (e2.mpr g2)]; exact ⟨fun _ => rfl, fun c => absurd (.inr g2) c⟩
    · rw [if_neg (fun c => g2 (e2.mp c))]; exact ⟨fun c => absurd c (by omega), fun _ => rfl⟩
theorem c_isL {i : Nat} (hg : hG M x G) (gO : gOk M x G) (hX : gX G T) (hi : i < 600) : (isL (T i) → tX1_isLetter (x + 1) (Int32.ofNat i) M = some 1) ∧ (¬ isL (T i) → tX1_isLetter (x + 1) (Int32.ofNat i) M = some 0) := by
  obtain ⟨r1, r2⟩ := c_rd hg gO hi
  obtain ⟨h1, h2⟩ := hX i hi
  have e1 : gt G 2 i < 97 ↔ (T i < 97 ∨ 128 ≤ T i) := by rw [← h2]; exact cd_lo (j := 97) (by omega) h1
  have e2 : 122 < gt G 2 i ↔ (122 < T i ∧ T i < 128) := by rw [← h2]; exact cd_hi (j := 122) (by omega) h1
  unfold isL
  rw [tX1_isLetter, r1, Option.bind_some, r2, Option.bind_some]
  by_cases g : T i < 97 ∨ 128 ≤ T i
  · rw [if_pos (e1.mpr g)]; exact ⟨fun c => absurd c (by omega), fun _ => rfl⟩
  · rw [if_neg (fun c => g (e1.mp c)), Option.bind_some, r2, Option.bind_some]
    by_cases g2 : 122 < T i ∧ T i < 128
    · rw [if_pos (e2.mpr g2)]; exact ⟨fun c => absurd c (by omega), fun _ => rfl⟩
    · rw [if_neg (fun c => g2 (e2.mp c))]; exact ⟨fun _ => rfl, fun c => absurd (show 97 ≤ T i ∧ T i ≤ 122 by omega) c⟩
theorem c_isD {i : Nat} (hg : hG M x G) (gO : gOk M x G) (hX : gX G T) (hi : i < 600) : (isD (T i) → tX1_isDigit (x + 1) (Int32.ofNat i) M = some 1) ∧ (¬ isD (T i) → tX1_isDigit (x + 1) (Int32.ofNat i) M = some 0) := by
  obtain ⟨r1, r2⟩ := c_rd hg gO hi
  obtain ⟨h1, h2⟩ := hX i hi
  have e1 : gt G 2 i < 48 ↔ (T i < 48 ∨ 128 ≤ T i) := by rw [← h2]; exact cd_lo (j := 48) (by omega) h1
  have e2 : 57 < gt G 2 i ↔ (57 < T i ∧ T i < 128) := by rw [← h2]; exact cd_hi (j := 57) (by omega) h1
  unfold isD
  rw [tX1_isDigit, r1, Option.bind_some, r2, Option.bind_some]
  by_cases g : T i < 48 ∨ 128 ≤ T i
  · rw [if_pos (e1.mpr g)]; exact ⟨fun c => absurd c (by omega), fun _ => rfl⟩
  · rw [if_neg (fun c => g (e1.mp c)), Option.bind_some, r2, Option.bind_some]
    by_cases g2 : 57 < T i ∧ T i < 128
    · rw [if_pos (e2.mpr g2)]; exact ⟨fun c => absurd c (by omega), fun _ => rfl⟩
    · rw [if_neg (fun c => g2 (e2.mp c))]; exact ⟨fun _ => rfl, fun c => absurd (show 48 ≤ T i ∧ T i ≤ 57 by omega) c⟩
/-! the runs of the class -/
theorem pOk.up {k : Nat} {v : Value} (h : pOk x len P) (hk : 1 < k) : pOk x len (updV P k v) := ⟨by rw [u_ne (by omega)]; exact h.1, by rw [u_ne (by omega)]; exact h.2⟩
theorem c_bl_L (hg : hG M x G) (gO : gOk M x G) (hX : gX G T) (hy : y < x ∨ x + 8 ≤ y) (hb : M.2.2.2 ≤ y) (hl : len ≤ 600) : ∀ (q f e : Nat) (P : Nat → Value), pOk x len P → vI (P 4) = Int32.ofNat e → e + q = len → q < f →
    ∃ e2 P2, tX3_toNextToken_L8 y f (pv M y P) = some ((), pv M y P2) ∧ vI (P2 4) = Int32.ofNat e2 ∧ run isB T len e e2 ∧ pOk x len P2 ∧ ∀ k, k ≠ 4 → P2 k = P k := by
  intro q
  induction q with
  | zero =>
    intro f e P hP h4 hq hf
    obtain ⟨f, rfl⟩ : ∃ g, f = g + 1 := ⟨f - 1, by omega⟩
    refine ⟨e, P, ?_, h4, ⟨Nat.le_refl _, by omega, fun i i1 i2 => by omega, fun c => by omega⟩, hP, fun _ _ => rfl⟩
    rw [tX3_toNextToken_L8, p_I, Option.bind_some, p_I, Option.bind_some, h4, hP.2, if_pos ((n_le (by omega) (by omega)).mpr (by omega))]
  | succ q ih =>
    intro f e P hP h4 hq hf
    obtain ⟨f, rfl⟩ : ∃ g, f = g + 1 := ⟨f - 1, by omega⟩
    have hgp : hG (pv M y P) x G := hg.pv hy
    obtain ⟨t1, t2⟩ := c_isB (M := pv M y P) (T := T) (i := e) hgp gO hX (by omega)
    have st : ∀ c, tX1_isBlank (x + 1) (Int32.ofNat e) (pv M y P) = some c → tX3_toNextToken_L8 y (f + 1) (pv M y P) = if c = 0 then some ((), pv M y P) else tX3_toNextToken_L8 y f (pv M y (updV P 4 (.int (Int32.ofNat (e + 1))))) := fun c hc => by
      rw [tX3_toNextToken_L8, p_I, Option.bind_some, p_I, Option.bind_some, h4, hP.2, if_neg (fun g => by have := (n_le (by omega) (by omega)).mp g; omega), p_A hP.1, Option.bind_some, Option.bind_some, if_pos (T_in hgp), hc, Option.bind_some, Option.bind_some, n_succ, p_S hb, Option.bind_some]
    by_cases g : isB (T e)
    · rw [st 1 (t1 g), if_neg n10]
      obtain ⟨e2, P2, q1, q2, q3, q4, q5⟩ := ih f (e + 1) (updV P 4 (.int (Int32.ofNat (e + 1)))) (hP.up (by omega)) (by rw [u_eq]; rfl) (by omega) (by omega)
      exact ⟨e2, P2, q1, q2, run_st (by omega) (fun i i1 i2 => by rw [show i = e by omega]; exact g) q3, q4, fun k hk => by rw [q5 k hk, u_ne hk]⟩
    · rw [st 0 (t2 g), if_pos rfl]
      exact ⟨e, P, rfl, h4, ⟨Nat.le_refl _, by omega, fun i i1 i2 => by omega, fun _ => g⟩, hP, fun _ _ => rfl⟩
theorem c_lt_L (hg : hG M x G) (gO : gOk M x G) (hX : gX G T) (hy : y < x ∨ x + 8 ≤ y) (hb : M.2.2.2 ≤ y) (hl : len ≤ 600) : ∀ (q f e : Nat) (P : Nat → Value), pOk x len P → vI (P 5) = Int32.ofNat e → e + q = len → q < f →
    ∃ e2 P2, tX3_passLetters_L8 y f (pv M y P) = some ((), pv M y P2) ∧ vI (P2 5) = Int32.ofNat e2 ∧ run isL T len e e2 ∧ pOk x len P2 ∧ ∀ k, k ≠ 5 → P2 k = P k := by
  intro q
  induction q with
  | zero =>
    intro f e P hP h4 hq hf
    obtain ⟨f, rfl⟩ : ∃ g, f = g + 1 := ⟨f - 1, by omega⟩
    refine ⟨e, P, ?_, h4, ⟨Nat.le_refl _, by omega, fun i i1 i2 => by omega, fun c => by omega⟩, hP, fun _ _ => rfl⟩
    rw [tX3_passLetters_L8, p_I, Option.bind_some, p_I, Option.bind_some, h4, hP.2, if_pos ((n_le (by omega) (by omega)).mpr (by omega))]
  | succ q ih =>
    intro f e P hP h4 hq hf
    obtain ⟨f, rfl⟩ : ∃ g, f = g + 1 := ⟨f - 1, by omega⟩
    have hgp : hG (pv M y P) x G := hg.pv hy
    obtain ⟨t1, t2⟩ := c_isL (M := pv M y P) (T := T) (i := e) hgp gO hX (by omega)
    have st : ∀ c, tX1_isLetter (x + 1) (Int32.ofNat e) (pv M y P) = some c → tX3_passLetters_L8 y (f + 1) (pv M y P) = if c = 0 then some ((), pv M y P) else tX3_passLetters_L8 y f (pv M y (updV P 5 (.int (Int32.ofNat (e + 1))))) := fun c hc => by
      rw [tX3_passLetters_L8, p_I, Option.bind_some, p_I, Option.bind_some, h4, hP.2, if_neg (fun g => by have := (n_le (by omega) (by omega)).mp g; omega), p_A hP.1, Option.bind_some, Option.bind_some, if_pos (T_in hgp), hc, Option.bind_some, Option.bind_some, n_succ, p_S hb, Option.bind_some]
    by_cases g : isL (T e)
    · rw [st 1 (t1 g), if_neg n10]
      obtain ⟨e2, P2, q1, q2, q3, q4, q5⟩ := ih f (e + 1) (updV P 5 (.int (Int32.ofNat (e + 1)))) (hP.up (by omega)) (by rw [u_eq]; rfl) (by omega) (by omega)
      exact ⟨e2, P2, q1, q2, run_st (by omega) (fun i i1 i2 => by rw [show i = e by omega]; exact g) q3, q4, fun k hk => by rw [q5 k hk, u_ne hk]⟩
    · rw [st 0 (t2 g), if_pos rfl]
      exact ⟨e, P, rfl, h4, ⟨Nat.le_refl _, by omega, fun i i1 i2 => by omega, fun _ => g⟩, hP, fun _ _ => rfl⟩
/-- the value of digits -/
def dv (B : Nat → Nat) : Nat → Nat
  | 0 => 0
  | n + 1 => 10 * dv B n + (B n - 48)
theorem dig_c : ∀ c, c < 128 → 48 ≤ c → Int32.ofNat c - 48 = Int32.ofNat (c - 48) := by decide +kernel
theorem c_dg_L {p : Nat} (hg : hG M x G) (gO : gOk M x G) (hX : gX G T) (hy : y < x ∨ x + 8 ≤ y) (hb : M.2.2.2 ≤ y) (hl : len ≤ 600) : ∀ (q f e : Nat) (P : Nat → Value), pOk x len P → vI (P 5) = Int32.ofNat e → p ≤ e → (e - p ≤ 3 → vI (P 6) = Int32.ofNat (dv (fun i => T (p + i)) (e - p))) → e + q = len → q < f →
    ∃ e2 P2, tX3_passDigits_L13 y f (pv M y P) = some ((), pv M y P2) ∧ vI (P2 5) = Int32.ofNat e2 ∧ run isD T len e e2 ∧ pOk x len P2 ∧ (e2 - p ≤ 3 → vI (P2 6) = Int32.ofNat (dv (fun i => T (p + i)) (e2 - p))) ∧ ∀ k, k ≠ 5 → k ≠ 6 → P2 k = P k := by
  intro q
  induction q with
  | zero =>
    intro f e P hP h4 hpe h6 hq hf
    obtain ⟨f, rfl⟩ : ∃ g, f = g + 1 := ⟨f - 1, by omega⟩
    refine ⟨e, P, ?_, h4, ⟨Nat.le_refl _, by omega, fun i i1 i2 => by omega, fun c => by omega⟩, hP, h6, fun _ _ _ => rfl⟩
    rw [tX3_passDigits_L13, p_I, Option.bind_some, p_I, Option.bind_some, h4, hP.2, if_pos ((n_le (by omega) (by omega)).mpr (by omega))]
  | succ q ih =>
    intro f e P hP h4 hpe h6 hq hf
    obtain ⟨f, rfl⟩ : ∃ g, f = g + 1 := ⟨f - 1, by omega⟩
    have hgp : hG (pv M y P) x G := hg.pv hy
    obtain ⟨t1, t2⟩ := c_isD (M := pv M y P) (T := T) (i := e) hgp gO hX (by omega)
    obtain ⟨r1, r2⟩ := c_rd (M := pv M y P) (i := e) hgp gO (by omega)
    have st : ∀ c, tX1_isDigit (x + 1) (Int32.ofNat e) (pv M y P) = some c → tX3_passDigits_L13 y (f + 1) (pv M y P) = if c = 0 then some ((), pv M y P) else tX3_passDigits_L13 y f (pv M y (updV (updV P 6 (.int ((vI (P 6) * 10) + (gt G 2 e - 48)))) 5 (.int (Int32.ofNat (e + 1))))) := fun c hc => by
      rw [tX3_passDigits_L13, p_I, Option.bind_some, p_I, Option.bind_some, h4, hP.2, if_neg (fun g => by have := (n_le (by omega) (by omega)).mp g; omega), p_A hP.1, Option.bind_some, Option.bind_some, if_pos (T_in hgp), hc, Option.bind_some, p_I, Option.bind_some, Option.bind_some, r1, Option.bind_some, Option.bind_some, r2, Option.bind_some, p_S hb, Option.bind_some, p_I, Option.bind_some, u_ne (by omega), h4, n_succ, p_S hb, Option.bind_some]
    by_cases g : isD (T e)
    · rw [st 1 (t1 g), if_neg n10]
      obtain ⟨g48, g57⟩ := g
      obtain ⟨w1, w2⟩ := hX e (by omega)
      have ev : gt G 2 e = Int32.ofNat (T e) := (cd_eq (j := T e) (by omega) w1).mpr w2
      obtain ⟨e2, P2, q1, q2, q3, q4, q5, q6⟩ := ih f (e + 1) (updV (updV P 6 (.int ((vI (P 6) * 10) + (gt G 2 e - 48)))) 5 (.int (Int32.ofNat (e + 1)))) ((hP.up (by omega)).up (by omega)) (by rw [u_eq]; rfl) (by omega) (fun c => by
        rw [u_ne (by omega), u_eq]
        show vI (P 6) * 10 + (gt G 2 e - 48) = _
        rw [h6 (by omega), ev, dig_c _ (by omega) g48, show (10 : Int32) = Int32.ofNat 10 from rfl, ← Int32.ofNat_mul, n_add, show e + 1 - p = (e - p) + 1 by omega, dv, show p + (e - p) = e by omega, Nat.mul_comm]) (by omega) (by omega)
      exact ⟨e2, P2, q1, q2, run_st (by omega) (fun i i1 i2 => by rw [show i = e by omega]; exact ⟨g48, g57⟩) q3, q4, q5, fun k h1 h2 => by rw [q6 k h1 h2, u_ne h1, u_ne h2]⟩
    · rw [st 0 (t2 g), if_pos rfl]
      exact ⟨e, P, rfl, h4, ⟨Nat.le_refl _, by omega, fun i i1 i2 => by omega, fun _ => g⟩, hP, h6, fun _ _ _ => rfl⟩
end
