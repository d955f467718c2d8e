section
variable {M M' : vMe} {x y r a d : Nat} {G F C : Nat → Nat → Value} {P : Nat → Value} {T : Nat → Nat} {len : Nat} {Gs : Nat → Nat}
def tIx (c : Nat) : Nat := if c = 1 then 100 else if c = 2 then 101 else if c = 3 then 102 else if c = 4 then 103 else 104
/-- the token that begins at p -/
def tokC (T : Nat → Nat) (len p c e : Nat) : Prop :=
  (c = 0 ∧ p = len ∧ e = p) ∨ (p < len ∧ isL (T p) ∧ run isL T len p e ∧ ((e - p ≤ 8 ∧ c = 1) ∨ (8 < e - p ∧ c = 4))) ∨
  (p < len ∧ ¬ isL (T p) ∧ isD (T p) ∧ run isD T len p e ∧ ((e - p ≤ 3 ∧ c = 2) ∨ (3 < e - p ∧ c = 4))) ∨
  (p < len ∧ ¬ isL (T p) ∧ ¬ isD (T p) ∧ e = p + 1 ∧ ((T p = 59 ∧ c = 3) ∨ (T p ≠ 59 ∧ c = 4)))
theorem tokC_u {p c e c' e' : Nat} (h : tokC T len p c e) (g : tokC T len p c' e') : c = c' ∧ e = e' := by
  rcases h with ⟨h1, h2, h3⟩ | ⟨h1, h2, h3, h4⟩ | ⟨h1, h2, h3, h4, h5⟩ | ⟨h1, h2, h3, h4, h5⟩
  · rcases g with ⟨g1, g2, g3⟩ | ⟨g1, -⟩ | ⟨g1, -⟩ | ⟨g1, -⟩
    · omega
    · omega
    · omega
    · omega
  · rcases g with ⟨g1, g2, g3⟩ | ⟨g1, g2, g3, g4⟩ | ⟨g1, g2, -⟩ | ⟨g1, g2, -⟩
    · omega
    · have e1 := run_u h3 g3
      omega
    · exact absurd h2 g2
    · exact absurd h2 g2
  · rcases g with ⟨g1, g2, g3⟩ | ⟨g1, g2, g3, g4⟩ | ⟨g1, g2, g3, g4, g5⟩ | ⟨g1, g2, g3, -⟩
    · omega
    · exact absurd g2 h2
    · have e1 := run_u h4 g4
      omega
    · exact absurd h3 g3
  · rcases g with ⟨g1, g2, g3⟩ | ⟨g1, g2, g3, g4⟩ | ⟨g1, g2, g3, -⟩ | ⟨g1, g2, g3, g4, g5⟩
    · omega
    · exact absurd g2 h2
    · exact absurd g3 h3
    · omega
theorem run_1 {Q : Nat → Prop} {p e : Nat} (h : run Q T len p e) (hp : p < len) (hQ : Q (T p)) : p < e := by
  have h1 := h.1
  by_cases c : p < e
  · exact c
  · have e1 : e = p := by omega
    rw [e1] at h
    exact absurd hQ (h.2.2.2 hp)
/-- the class goes to the next token -/
theorem c_tok {e : Nat} (hg : hG M x G) (gO : gOk M x G) (hX : gX G T) (hy : y < x ∨ x + 8 ≤ y) (hb : M.2.2.2 ≤ y) (hl : len ≤ 600) (hP : hY M y P) (pO : pOk x len P) (h5 : vI (P 5) = Int32.ofNat e) (he : e ≤ len) :
    ∃ P2 c p e2, tX3_toNextToken Gs y M = some ((), pv M y P2) ∧ pOk x len P2 ∧ vI (P2 4) = Int32.ofNat p ∧ vI (P2 5) = Int32.ofNat e2 ∧ P2 3 = .ref (Gs (tIx c)) ∧ run isB T len e p ∧ tokC T len p c e2 ∧ (c = 2 → vI (P2 6) = Int32.ofNat (dv (fun i => T (p + i)) (e2 - p))) ∧ ∀ k, k < 3 ∨ 6 < k → P2 k = P k := by
  obtain ⟨p, P1, a1, a2, a3, a4, a5⟩ := c_bl_L (T := T) hg gO hX hy hb hl (len - e) vF e (updV P 4 (.int (Int32.ofNat e))) (pO.up (by omega)) (by rw [u_eq]; rfl) (by omega) (by unfold vF; omega)
  have k1 : ∀ k, k ≠ 4 → P1 k = P k := fun k hk => by rw [a5 k hk, u_ne hk]
  have st : tX3_toNextToken Gs y M = tX3_toNextToken_J46 Gs y (pv M y P1) := by
    have i5 : gI M y 6 5 = some (Int32.ofNat e) := by rw [← hP.eq, p_I, h5]
    have s4 : sV M y 6 4 (.int (Int32.ofNat e)) = some (pv M y (updV P 4 (.int (Int32.ofNat e)))) := by
      have := p_S (M := M) (y := y) (P := P) (k := 4) (v := .int (Int32.ofNat e)) hb
      rw [hP.eq] at this; exact this
    rw [tX3_toNextToken, i5, Option.bind_some, s4, Option.bind_some, a1, Option.bind_some]
  have hgp : hG (pv M y P1) x G := hg.pv hy
  have pl : p ≤ len := a3.2.1
  have cmp : (Int32.ofNat p < Int32.ofNat len) ↔ p < len := n_lt (by omega) (by omega)
  rw [st, tX3_toNextToken_J46, p_I, Option.bind_some, p_I, Option.bind_some, a2, a4.2]
  by_cases hp : p < len
  · rw [if_pos (cmp.mpr hp), p_A a4.1, Option.bind_some, Option.bind_some, if_pos (T_in hgp)]
    obtain ⟨l1, l2⟩ := c_isL (M := pv M y P1) (T := T) (i := p) hgp gO hX (by omega)
    obtain ⟨d1, d2⟩ := c_isD (M := pv M y P1) (T := T) (i := p) hgp gO hX (by omega)
    by_cases gl : isL (T p)
    · rw [l1 gl, Option.bind_some, if_neg n10, if_pos p_tag]
      obtain ⟨e2, P2, b1, b2, b3, b4, b5⟩ := c_lt_L (T := T) hg gO hX hy hb hl (len - p) vF p (updV P1 5 (.int (Int32.ofNat p))) (a4.up (by omega)) (by rw [u_eq]; rfl) (by omega) (by unfold vF; omega)
      have b24 : vI (P2 4) = Int32.ofNat p := by rw [b5 4 (by omega), u_ne (by omega)]; exact a2
      have L : tX3_passLetters Gs y (pv M y P1) = some ((), pv M y (updV P2 3 (.ref (Gs (if e2 - p ≤ 8 then 100 else 103))))) := by
        rw [tX3_passLetters, p_I, Option.bind_some, a2, p_S hb, Option.bind_some, b1, Option.bind_some, tX3_passLetters_J46, p_I, Option.bind_some, p_I, Option.bind_some, b2, b24, n_sub b3.1, if_le (v := 8) (b := 8) rfl (by have := b3.2.1; omega) (by omega)]
        by_cases g8 : e2 - p ≤ 8
        · rw [if_pos g8, if_pos g8, tX3_passLetters_J70, p_S hb, Option.bind_some]
        · rw [if_neg g8, if_neg g8, tX3_passLetters_J70, p_S hb, Option.bind_some]
      refine ⟨updV P2 3 (.ref (Gs (if e2 - p ≤ 8 then 100 else 103))), if e2 - p ≤ 8 then 1 else 4, p, e2, by rw [L, Option.bind_some], b4.up (by omega), by rw [u_ne (by omega)]; exact b24, by rw [u_ne (by omega)]; exact b2, ?_, a3, .inr (.inl ⟨hp, gl, b3, ?_⟩), fun c => ?_, fun k hk => by rw [u_ne (by omega), b5 k (by omega), u_ne (by omega), k1 k (by omega)]⟩
      · rw [u_eq]
        by_cases g8 : e2 - p ≤ 8
        · rw [if_pos g8, if_pos g8]; rfl
        · rw [if_neg g8, if_neg g8]; rfl
      · by_cases g8 : e2 - p ≤ 8
        · exact .inl ⟨g8, if_pos g8⟩
        · exact .inr ⟨by omega, if_neg g8⟩
      · by_cases g8 : e2 - p ≤ 8
        · rw [if_pos g8] at c; omega
        · rw [if_neg g8] at c; omega
    · rw [l2 gl, Option.bind_some, if_pos rfl, Option.bind_some, Option.bind_some, if_pos (T_in hgp)]
      by_cases gd : isD (T p)
      · rw [d1 gd, Option.bind_some, if_neg n10, if_pos p_tag]
        obtain ⟨e2, P2, b1, b2, b3, b4, b6, b5⟩ := c_dg_L (T := T) (p := p) hg gO hX hy hb hl (len - p) vF p (updV (updV P1 6 (.int 0)) 5 (.int (Int32.ofNat p))) ((a4.up (by omega)).up (by omega)) (by rw [u_eq]; rfl) (Nat.le_refl _) (fun _ => by rw [u_ne (by omega), u_eq, Nat.sub_self]; rfl) (by omega) (by unfold vF; omega)
        have b24 : vI (P2 4) = Int32.ofNat p := by rw [b5 4 (by omega) (by omega), u_ne (by omega), u_ne (by omega)]; exact a2
        have L : tX3_passDigits Gs y (pv M y P1) = some ((), pv M y (updV P2 3 (.ref (Gs (if e2 - p ≤ 3 then 101 else 103))))) := by
          rw [tX3_passDigits, p_S hb, Option.bind_some, p_I, Option.bind_some, u_ne (by omega), a2, p_S hb, Option.bind_some, b1, Option.bind_some, tX3_passDigits_J78, p_I, Option.bind_some, p_I, Option.bind_some, b2, b24, n_sub b3.1, if_le (v := 3) (b := 3) rfl (by have := b3.2.1; omega) (by omega)]
          by_cases g8 : e2 - p ≤ 3
          · rw [if_pos g8, if_pos g8, tX3_passDigits_J101, p_S hb, Option.bind_some]
          · rw [if_neg g8, if_neg g8, tX3_passDigits_J101, p_S hb, Option.bind_some]
        refine ⟨updV P2 3 (.ref (Gs (if e2 - p ≤ 3 then 101 else 103))), if e2 - p ≤ 3 then 2 else 4, p, e2, by rw [L, Option.bind_some], b4.up (by omega), by rw [u_ne (by omega)]; exact b24, by rw [u_ne (by omega)]; exact b2, ?_, a3, .inr (.inr (.inl ⟨hp, gl, gd, b3, ?_⟩)), fun c => ?_, fun k hk => by rw [u_ne (by omega), b5 k (by omega) (by omega), u_ne (by omega), u_ne (by omega), k1 k (by omega)]⟩
        · rw [u_eq]
          by_cases g8 : e2 - p ≤ 3
          · rw [if_pos g8, if_pos g8]; rfl
          · rw [if_neg g8, if_neg g8]; rfl
        · by_cases g8 : e2 - p ≤ 3
          · exact .inl ⟨g8, if_pos g8⟩
          · exact .inr ⟨by omega, if_neg g8⟩
        · by_cases g8 : e2 - p ≤ 3
          · rw [u_ne (by omega)]; exact b6 g8
          · rw [if_neg g8] at c; omega
      · have hq := hX p (by omega)
        have ce : gt G 2 p = 59 ↔ T p = 59 := by rw [← hq.2]; exact cd_eq (j := 59) (by omega) hq.1
        obtain ⟨r1, r2⟩ := c_rd (M := pv M y (updV P1 5 (.int (Int32.ofNat (p + 1))))) (i := p) (hg.pv hy) gO (by omega)
        have pO5 : pOk x len (updV P1 5 (.int (Int32.ofNat (p + 1)))) := a4.up (by omega)
        rw [d2 gd, Option.bind_some, if_pos rfl, Option.bind_some, n_succ, p_S hb, Option.bind_some, p_A pO5.1, Option.bind_some, r1, Option.bind_some, p_I, Option.bind_some, u_ne (by omega), a2, r2, Option.bind_some]
        by_cases g59 : T p = 59
        · rw [if_pos (ce.mpr g59), tX3_toNextToken_J154, p_S hb, Option.bind_some]
          exact ⟨_, 3, p, p + 1, rfl, pO5.up (by omega), by rw [u_ne (by omega), u_ne (by omega)]; exact a2, by rw [u_ne (by omega), u_eq]; rfl, by rw [u_eq]; rfl, a3, .inr (.inr (.inr ⟨hp, gl, gd, rfl, .inl ⟨g59, rfl⟩⟩)), fun c => by omega, fun k hk => by rw [u_ne (by omega), u_ne (by omega), k1 k (by omega)]⟩
        · rw [if_neg (fun c => g59 (ce.mp c)), tX3_toNextToken_J154, p_S hb, Option.bind_some]
          exact ⟨_, 4, p, p + 1, rfl, pO5.up (by omega), by rw [u_ne (by omega), u_ne (by omega)]; exact a2, by rw [u_ne (by omega), u_eq]; rfl, by rw [u_eq]; rfl, a3, .inr (.inr (.inr ⟨hp, gl, gd, rfl, .inr ⟨g59, rfl⟩⟩)), fun c => by omega, fun k hk => by rw [u_ne (by omega), u_ne (by omega), k1 k (by omega)]⟩
  · rw [if_neg (fun c => hp (cmp.mp c)), Option.bind_some, p_S hb, Option.bind_some, p_S hb, Option.bind_some]
    exact ⟨_, 0, p, p, rfl, (a4.up (by omega)).up (by omega), by rw [u_ne (by omega), u_ne (by omega)]; exact a2, by rw [u_ne (by omega), u_eq]; rfl, by rw [u_eq]; rfl, a3, .inl ⟨rfl, by omega, rfl⟩, fun c => by omega, fun k hk => by rw [u_ne (by omega), u_ne (by omega), k1 k (by omega)]⟩
end
