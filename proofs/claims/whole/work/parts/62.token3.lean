section
variable {M M' : vMe} {x y r a d : Nat} {G F C : Nat → Nat → Value} {P : Nat → Value} {T : Nat → Nat} {len : Nat} {Gs : Nat → Nat}
def tIx (c : Nat) : Nat := if c = 1 then 100 else if c = 2 then 101 else if c = 3 then 102 else if c = 4 then 103 else 104
/-- the token that begins at p -/
def tokC (T : Nat → Nat) (len p c e : Nat) : Prop :=
  (c = 0 ∧ p = len ∧ e = p) ∨ (p < len ∧ isL (T p) ∧ run isL T len p e ∧ ((e - p ≤ 8 ∧ c = 1) ∨ (8 < e - p ∧ c = 4))) ∨
  (p < len ∧ ¬ isL (T p) ∧ isD (T p) ∧ run isD T len p e ∧ ((e - p ≤ 3 ∧ c = 2) ∨ (3 < e - p ∧ c = 4))) ∨
  (p < len ∧ ¬ isL (T p) ∧ ¬ isD (T p) ∧ e = p + 1 ∧ ((T p = 59 ∧ c = 3) ∨ (T p ≠ 59 ∧ c = 4)))
theorem tokC_u {p c e c' e' : Nat} (h : tokC T len p c e) (g : tokC T len p c' e') : c = c' ∧ e = e' := by
  rcases h with ⟨h1, h2, h3⟩ | ⟨h1, h2, h3, h4⟩ | ⟨h1, h2, h3, h4, h5⟩ | ⟨h1, h2, h3, h4, h5⟩
  · rcases g with ⟨g1, g2, g3⟩ | ⟨g1, -⟩ | ⟨g1, -⟩ | ⟨g1, -⟩
    · omega
    · omega
    · omega
    · omega
  · rcases g with ⟨g1, g2, g3⟩ | ⟨g1, g2, g3, g4⟩ | ⟨g1, g2, -⟩ | ⟨g1, g2, -⟩
    · omega
    · have e1 := run_u h3 g3
      omega
    · exact absurd h2 g2
    · exact absurd h2 g2
  · rcases g with ⟨g1, g2, g3⟩ | ⟨g1, g2, g3, g4⟩ | ⟨g1, g2, g3, g4, g5⟩ | ⟨g1, g2, g3, -⟩
    · omega
    · exact absurd g2 h2
    · have e1 := run_u h4 g4
      omega
    · exact absurd h3 g3
  · rcases g with ⟨g1, g2, g3⟩ | ⟨g1, g2, g3, g4⟩ | ⟨g1, g2, g3, -⟩ | ⟨g1, g2, g3, g4, g5⟩
    · omega
    · exact absurd g2 h2
    · exact absurd g3 h3
    · omega
theorem run_1 {Q : Nat → Prop} {p e : Nat} (h : run Q T len p e) (hp : p < len) (hQ : Q (T p)) : p < e := by
  have h1 := h.1
  by_cases c : p < e
  · exact c
  · have e1 : e = p := by omega
    rw [e1] at h
    exact absurd hQ (h.2.2.2 hp)
/-- the class goes to the next token -/
theorem c_tok {e : Nat} (hg : hG M x G) (gO : gOk M x G) (hX : gX G T) (hy : y < x ∨ x + 8 ≤ y) (hb : M.2.2.2 ≤ y) (hl : len ≤ 600) (hP : hY M y P) (pO : pOk x len P) (h5 : vI (P 5) = Int32.ofNat e) (he : e ≤ len) :
    ∃ P2 c p e2, tX3_toNextToken Gs y M = some ((), pv M y P2) ∧ pOk x len P2 ∧ vI (P2 4) = Int32.ofNat p ∧ vI (P2 5) = Int32.ofNat e2 ∧ P2 3 = .ref (Gs (tIx c)) ∧ run isB T len e p ∧ tokC T len p c e2 ∧ (c = 2 → vI (P2 6) = Int32.ofNat (dv (fun i => T (p + i)) (e2 - p))) ∧ ∀ k, k < 3 ∨ 6 < k → P2 k = P k := by
  obtain ⟨p, P1, a1, a2, a3, a4, a5⟩ := c_bl_L (T := T) hg gO hX hy hb hl (len - e) vF e (updV P 4 (.int (Int32.ofNat e))) (pO.up (by omega)) (by rw [u_eq]; rfl) (by omega) (by unfold vF; omega)
  have k1 : ∀ k, k ≠ 4 → P1 k = P k := fun k hk => by rw [a5 k hk, u_ne hk]
  have st : tX3_toNextToken Gs y M = tX3_toNextToken_J46 Gs y (pv M y P1) := by
    have i5 : gI M y 6 5 = some (Int32.ofNat e) := by rw [← hP.eq, p_I, h5]
    have s4 : sV M y 6 4 (.int (Int32.ofNat e)) = some (pv M y (updV P 4 (.int (Int32.ofNat e)))) := by
      have := p_S (M := M) (y := y) (P := P) (k := 4) (v := .int (Int32.ofNat e)) hb
      rw [hP.eq] at this; exact this
    rw [tX3_toNextToken, i5, Option.bind_some, s4, Option.bind_some, a1, Option.bind_some]
  have hgp : hG (pv M y P1) x G := hg.pv hy
  have pl : p ≤ len := a3.2.1
  have cmp : (Int32.ofNat p < Int32.ofNat len) ↔ p < len := n_lt (by omega) (by omega)
  rw [st, tX3_toNextToken_J46, p_I, Option.bind_some, p_I, Option.bind_some, a2, a4.2]
  by_cases hp : p < len
  · rw [if_pos (cmp.mpr hp), p_A a4.1, Option.bind_some, Option.bind_some, if_pos (T_in hgp)]
    obtain ⟨l1, l2⟩ := c_isL (M := pv M y P1) (T := T) (i := p) hgp gO hX (by omega)
    obtain ⟨d1, d2⟩ := c_isD (M := pv M y P1) (T := T) (i := p) hgp gO hX (by omega)
    by_cases gl : isL (T p)
    · rw [l1 gl, Option.bind_some, if_neg n10, if_pos p_tag]
      obtain ⟨e2, P2, b1, b2, b3, b4, b5⟩ := c_lt_L (T := T) hg gO hX hy hb hl (len - p) vF p (updV P1 5 (.int (Int32.ofNat p))) (a4.up (by omega)) (by rw [u_eq]; rfl) (by omega) (by unfold vF; omega)
      have b24 : vI (P2 4) = Int32.ofNat p := by rw [b5 4 (by omega), u_ne (by omega)]; exact a2
      have L : tX3_passLetters Gs y (pv M y P1) = some ((), pv M y (updV P2 3 (.ref (Gs (if e2 - p ≤ 8 then 100 else 103))))) := by
        rw [tX3_passLetters, p_I, Option.bind_some, a2, p_S hb, Option.bind_some, b1, Option.bind_some, tX3_passLetters_J46, p_I, Option.bind_some, p_I, Option.bind_some, b2, b24, n_sub b3.1, if_le (v := 8) (b := 8) rfl (by have := b3.2.1; omega) (by omega)]
        by_cases g8 : e2 - p ≤ 8
        · rw [if_pos g8, if_pos g8, tX3_passLetters_J70, p_S hb, Option.bind_some]
        · rw [if_neg g8, if_neg g8, tX3_passLetters_J70, p_S hb, Option.bind_some]
      refine ⟨updV P2 3 (.ref (Gs (if e2 - p ≤ 8 then 100 else 103))), if e2 - p ≤ 8 then 1 else 4, p, e2, by rw [L, Option.bind_some], b4.up (by omega), by rw [u_ne (by omega)]; exact b24, by rw [u_ne (by omega)]; exact b2, ?_, a3, .inr (.inl ⟨hp, gl, b3, ?_⟩), fun c => ?_, fun k hk => by rw [u_ne (by omega), b5 k (by omega), u_ne (by omega), k1 k (by omega)]⟩
      · rw [u_eq]
        by_cases g8 : e2 - p ≤ 8
        · rw [if_pos g8, if_pos g8]; rfl
        · rw [if_neg g8, if_neg g8]; rfl
      · by_cases g8 : e2 - p ≤ 8
        · exact .inl ⟨g8, if_pos g8⟩
        · exact .inr ⟨by omega, if_neg g8⟩
      · by_cases g8 : e2 - p ≤ 8
        · rw [if_pos g8] at c; omega
        · rw [if_neg g8] at c; omega
    · rw [l2 gl, Option.bind_some, if_pos rfl, Option.bind_some, Option.bind_some, if_pos (T_in hgp)]
      by_cases gd : isD (T p)
      · rw [d1 gd, Option.bind_some, if_neg n10, if_pos p_tag]
        obtain ⟨e2, P2, b1, b2, b3, b4, b6, b5⟩ := c_dg_L (T := T) (p := p) hg gO hX hy hb hl (len - p) vF p (updV (updV P1 6 (.int 0)) 5 (.int (Int32.ofNat p))) ((a4.up (by omega)).up (by omega)) (by rw [u_eq]; rfl) (Nat.le_refl _) (fun _ => by rw [u_ne (by omega), u_eq, Nat.sub_self]; rfl) (by omega) (by unfold vF; omega)
        have b24 : vI (P2 4) = Int32.ofNat p := by rw [b5 4 (by omega) (by omega), u_ne (by omega), u_ne (by omega)]; exact a2
        have L : tX3_passDigits Gs y (pv M y P1) = some ((), pv M y (updV P2 3 (.ref (Gs (if e2 - p ≤ 3 then 101 else 103))))) := by
          rw [tX3_passDigits, p_S hb, Option.bind_some, p_I, Option.bind_some, u_ne (by omega), a2, p_S hb, Option.bind_some, b1, Option.bind_some, tX3_passDigits_J78, p_I, Option.bind_some, p_I, Option.bind_some, b2, b24, n_sub b3.1, if_le (v := 3) (b := 3) rfl (by have := b3.2.1; omega) (by omega)]
          by_cases g8 : e2 - p ≤ 3
          · rw [if_pos g8, if_pos g8, tX3_passDigits_J101, p_S hb, Option.bind_some]
          · rw [if_neg g8, if_neg g8, tX3_passDigits_J101, p_S hb, Option.bind_some]
        refine ⟨updV P2 3 (.ref (Gs (if e2 - p ≤ 3 then 101 else 103))), if e2 - p ≤ 3 then 2 else 4, p, e2, by rw [L, Option.bind_some], b4.up (by omega), by rw [u_ne (by omega)]; exact b24, by rw [u_ne (by omega)]; exact b2, ?_, a3, .inr (.inr (.inl ⟨hp, gl, gd, b3, ?_⟩)), fun c => ?_, fun k hk => by rw [u_ne (by omega), b5 k (by omega) (by omega), u_ne (by omega), u_ne (by omega), k1 k (by omega)]⟩
        · rw [u_eq]
          by_cases g8 : e2 - p ≤ 3
          · rw [if_pos g8, if_pos g8]; rfl
          · rw [if_neg g8, if_neg g8]; rfl
        · by_cases g8 : e2 - p ≤ 3
          · exact .inl ⟨g8, if_pos g8⟩
          · exact .inr ⟨by omega, if_neg g8⟩
        · by_cases g8 : e2 - p ≤ 3
          · rw [u_ne (by omega)]; exact b6 g8
          · rw [if_neg g8] at c; omega
      · have hq := hX p (by omega)
        have ce : gt G 2 p = 59 ↔ T p = 59 := by rw [← hq.2]; exact cd_eq (j := 59) (by omega) hq.1
        obtain ⟨r1, r2⟩ := c_rd (M := pv M y (updV P1 5 (.int (Int32.ofNat (p + 1))))) (i := p) (hg.pv hy) gO (by omega)
        have pO5 : pOk x len (updV P1 5 (.int (Int32.ofNat (p + 1)))) := a4.up (by omega)
        rw [d2 gd, Option.bind_some, if_pos rfl, Option.bind_some, n_succ, p_S hb, Option.bind_some, p_A pO5.1, Option.bind_some, r1, Option.bind_some, p_I, Option.bind_some, u_ne (by omega), a2, r2, Option.bind_some]
        by_cases g59 : T p = 59
        · rw [if_pos (ce.mpr g59), tX3_toNextToken_J154, p_S hb, Option.bind_some]
          exact ⟨_, 3, p, p + 1, rfl, pO5.up (by omega), by rw [u_ne (by omega), u_ne (by omega)]; exact a2, by rw [u_ne (by omega), u_eq]; rfl, by rw [u_eq]; rfl, a3, .inr (.inr (.inr ⟨hp, gl, gd, rfl, .inl ⟨g59, rfl⟩⟩)), fun c => by omega, fun k hk => by rw [u_ne (by omega), u_ne (by omega), k1 k (by omega)]⟩
        · rw [if_neg (fun c => g59 (ce.mp c)), tX3_toNextToken_J154, p_S hb, Option.bind_some]
          exact ⟨_, 4, p, p + 1, rfl, pO5.up (by omega), by rw [u_ne (by omega), u_ne (by omega)]; exact a2, by rw [u_ne (by omega), u_eq]; rfl, by rw [u_eq]; rfl, a3, .inr (.inr (.inr ⟨hp, gl, gd, rfl, .inr ⟨g59, rfl⟩⟩)), fun c => by omega, fun k hk => by rw [u_ne (by omega), u_ne (by omega), k1 k (by omega)]⟩
  · rw [if_neg (fun c => hp (cmp.mp c)), Option.bind_some, p_S hb, Option.bind_some, p_S hb, Option.bind_some]
    exact ⟨_, 0, p, p, rfl, (a4.up (by omega)).up (by omega), by rw [u_ne (by omega), u_ne (by omega)]; exact a2, by rw [u_ne (by omega), u_eq]; rfl, by rw [u_eq]; rfl, a3, .inl ⟨rfl, by omega, rfl⟩, fun c => by omega, fun k hk => by rw [u_ne (by omega), u_ne (by omega), k1 k (by omega)]⟩
/-- the reference goes to the next token -/
theorem r_tok {e : Nat} (hl : len ≤ 600) (hr : rOk M r F) (hT : tX F T) (h5 : gt F 0 5 = Int32.ofNat len) (h7 : gt F 0 7 = Int32.ofNat e) (he : e ≤ len) :
    ∃ F2 c p e2, tX10_advance r (rv M r F) = some ((), rv M r F2) ∧ rOk M r F2 ∧ gt F2 0 6 = Int32.ofNat p ∧ gt F2 0 7 = Int32.ofNat e2 ∧ gt F2 0 8 = Int32.ofNat c ∧ run isB T len e p ∧ tokC T len p c e2 ∧ (c = 2 → gt F2 0 9 = Int32.ofNat (dv (fun i => T (p + i)) (e2 - p))) ∧ (c = 1 → vJ (F2 0 10) = pk (fun i => T (p + i)) (e2 - p)) ∧ (∀ i, i ≠ 0 → F2 i = F i) ∧ ∀ l, l < 6 ∨ 10 < l → F2 0 l = F 0 l := by
  obtain ⟨p, F1, a1, a2, a3, a4, a5, a6⟩ := r_bl_L (M := M) (r := r) (T := T) hl (len - e) vF e F hr hT h5 h7 (by omega) (by unfold vF; omega)
  have pl : p ≤ len := a4.2.1
  obtain ⟨Fa, hFa⟩ : ∃ Fa, Fa = pu (pu F1 0 6 (.int (Int32.ofNat p))) 0 9 (.int 0) := ⟨_, rfl⟩
  have o6 : rOk M r (pu F1 0 6 (.int (Int32.ofNat p))) := rOk_0 a2 f6
  have oa : rOk M r Fa := by rw [hFa]; exact rOk_0 o6 f9
  have ra : ∀ i, i ≠ 0 → Fa i = F i := fun i hi => by rw [hFa, pu_o hi, pu_o hi, a5 i hi]
  have ca : ∀ l, l ≠ 6 → l ≠ 7 → l ≠ 9 → Fa 0 l = F 0 l := fun l l6 l7 l9 => by rw [hFa, pu_ne (by omega), pu_ne (by omega), a6 l l7]
  have ca5 : gt Fa 0 5 = Int32.ofNat len := by unfold gt; rw [ca 5 (by omega) (by omega) (by omega)]; exact h5
  have ca6 : gt Fa 0 6 = Int32.ofNat p := by rw [hFa, gt_ne (by omega), gt_eq]
  have ca7 : gt Fa 0 7 = Int32.ofNat p := by rw [hFa, gt_ne (by omega), gt_ne (by omega)]; exact a3
  have ca9 : gt Fa 0 9 = 0 := by rw [hFa, gt_eq]
  have hTa : tX Fa T := hT.row (ra 3 (by omega))
  have bA : tX10_byteAt r (Int32.ofNat p) (rv M r Fa) = some (if p < len then Int32.ofNat (T p) else -1) := r_byteAt oa ca5 hl (by omega) hTa
  have st : ∀ Z : Option (Unit × vMe), (∀ v, tX10_byteAt r (Int32.ofNat p) (rv M r Fa) = some v → (if v = ((-1) : Int32) then ((sV (rv M r Fa) r 12 8 (.int 0)).bind fun M24 => some ((), M24)) else ((tX10_within v 97 122 (rv M r Fa)).bind fun z25 => if z25 = 0 then ((tX10_within v 48 57 (rv M r Fa)).bind fun z27 => if z27 = 0 then ((gI (rv M r Fa) r 12 7).bind fun v29 => (sV (rv M r Fa) r 12 7 (.int (v29 + 1))).bind fun M30 => if v = (59 : Int32) then (tX10_advance_J247 r 3 M30) else (tX10_advance_J247 r 4 M30))
      else ((tX10_advance_L126 r vF (rv M r Fa)).bind fun z61 => (gI z61.2 r 12 7).bind fun v62 => (gI z61.2 r 12 6).bind fun v63 => if (v62 - v63) ≤ (3 : Int32) then (tX10_advance_J219 r 2 z61.2) else (tX10_advance_J219 r 4 z61.2))) else (if ((rv M r Fa).1 r).1 = 12 then ((tX10_takesLetters r (rv M r Fa)).bind fun z66 => (gI z66.2 r 12 7).bind fun v67 => (gI z66.2 r 12 6).bind fun v68 => if (v67 - v68) ≤ (8 : Int32) then (tX10_advance_J109 r 1 z66.2) else (tX10_advance_J109 r 4 z66.2)) else none))) = Z) → tX10_advance r (rv M r F) = Z := fun Z hZ => by
    rw [tX10_advance, a1, Option.bind_some, r_gI, Option.bind_some, a3, r_sV _ a2, Option.bind_some, r_sV _ o6, Option.bind_some, ← hFa, r_gI, Option.bind_some, ca7, if_pos r_tag, bA, Option.bind_some]
    have z := hZ _ bA
    rw [r_gI, ca7] at z
    exact z
  by_cases hp : p < len
  · have hTe := hT p (by omega)
    have c256 : T p < 256 := by rw [← hTe.2]; exact cd_lt hTe.1
    have nm1 : ¬ Int32.ofNat (T p) = (-1 : Int32) := fun c => by
      have := congrArg Int32.toInt c
      rw [n_toInt (by omega), show (-1 : Int32).toInt = -1 by decide] at this
      omega
    have wl : tX10_within (Int32.ofNat (T p)) 97 122 (rv M r Fa) = _ := r_wL (lo := 97) (hi := 122) c256 (by omega) (by omega)
    have wd : tX10_within (Int32.ofNat (T p)) 48 57 (rv M r Fa) = _ := r_wL (lo := 48) (hi := 57) c256 (by omega) (by omega)
    by_cases gl : 97 ≤ T p ∧ T p ≤ 122
    · obtain ⟨e2, F2, b1, b2, b3, b4, b5, b6, b7, b8, b9, b10⟩ := r_letters (M := M) (r := r) (T := T) (p := p) hl pl oa hTa ca5 ca6 ca7
      have rn : run isL T len p e2 := ⟨b5, b6, b7, b8⟩
      have e6 : gt F2 0 6 = Int32.ofNat p := by rw [show gt F2 0 6 = gt Fa 0 6 from by unfold gt; rw [b10 6 (by omega) (by omega)]]; exact ca6
      have c8 : ∀ c : Int32, rOk M r (pu F2 0 8 (.int c)) := fun c => rOk_0 b2 f8
      refine ⟨pu F2 0 8 (.int (Int32.ofNat (if e2 - p ≤ 8 then 1 else 4))), if e2 - p ≤ 8 then 1 else 4, p, e2, st _ (fun v hv => ?_), c8 _, by rw [gt_ne (by omega)]; exact e6, by rw [gt_ne (by omega)]; exact b3, gt_eq _ _ _, a4, .inr (.inl ⟨hp, gl, rn, ?_⟩), fun c => ?_, fun c => ?_, fun i hi => by rw [pu_o hi, b9 i hi, ra i hi], fun l hl => by rw [pu_ne (by omega), b10 l (by omega) (by omega), ca l (by omega) (by omega) (by omega)]⟩
      · cases Option.some.inj (bA.symm.trans hv)
        rw [if_pos hp, if_neg nm1, wl, Option.bind_some, if_pos gl, if_neg n10, if_pos r_tag, b1, Option.bind_some, r_gI, Option.bind_some, r_gI, Option.bind_some, b3, e6, n_sub b5, if_le (v := 8) (b := 8) rfl (by omega) (by omega)]
        by_cases g8 : e2 - p ≤ 8
        · rw [if_pos g8, if_pos g8, tX10_advance_J109, r_sV _ b2, Option.bind_some]; rfl
        · rw [if_neg g8, if_neg g8, tX10_advance_J109, r_sV _ b2, Option.bind_some]; rfl
      · by_cases g8 : e2 - p ≤ 8
        · exact .inl ⟨g8, if_pos g8⟩
        · exact .inr ⟨by omega, if_neg g8⟩
      · by_cases g8 : e2 - p ≤ 8
        · rw [if_pos g8] at c; omega
        · rw [if_neg g8] at c; omega
      · by_cases g8 : e2 - p ≤ 8
        · rw [pu_ne (by omega), b4, show (if e2 - p < 8 then e2 - p else 8) = e2 - p by split <;> omega]
        · rw [if_neg g8] at c; omega
    · by_cases gd : 48 ≤ T p ∧ T p ≤ 57
      · obtain ⟨e2, F2, b1, b2, b3, b4, b5, b6, b7⟩ := r_dg_L (M := M) (r := r) (T := T) (p := p) hl (len - p) vF p Fa oa hTa ca5 ca6 ca7 (by rw [ca9, Nat.sub_self, if_pos (by omega)]; rfl) (Nat.le_refl _) (by omega) (by unfold vF; omega)
        have e6 : gt F2 0 6 = Int32.ofNat p := by rw [show gt F2 0 6 = gt Fa 0 6 from by unfold gt; rw [b7 6 (by omega) (by omega)]]; exact ca6
        have c8 : ∀ c : Int32, rOk M r (pu F2 0 8 (.int c)) := fun c => rOk_0 b2 f8
        have b42 := b4.2.1
        refine ⟨pu F2 0 8 (.int (Int32.ofNat (if e2 - p ≤ 3 then 2 else 4))), if e2 - p ≤ 3 then 2 else 4, p, e2, st _ (fun v hv => ?_), c8 _, by rw [gt_ne (by omega)]; exact e6, by rw [gt_ne (by omega)]; exact b3, gt_eq _ _ _, a4, .inr (.inr (.inl ⟨hp, gl, gd, b4, ?_⟩)), fun c => ?_, fun c => ?_, fun i hi => by rw [pu_o hi, b6 i hi, ra i hi], fun l hl => by rw [pu_ne (by omega), b7 l (by omega) (by omega), ca l (by omega) (by omega) (by omega)]⟩
        · cases Option.some.inj (bA.symm.trans hv)
          rw [if_pos hp, if_neg nm1, wl, Option.bind_some, if_neg gl, if_pos rfl, wd, Option.bind_some, if_pos gd, if_neg n10, b1, Option.bind_some, r_gI, Option.bind_some, r_gI, Option.bind_some, b3, e6, n_sub b4.1, if_le (v := 3) (b := 3) rfl (by omega) (by omega)]
          by_cases g8 : e2 - p ≤ 3
          · rw [if_pos g8, if_pos g8, tX10_advance_J219, r_sV _ b2, Option.bind_some]; rfl
          · rw [if_neg g8, if_neg g8, tX10_advance_J219, r_sV _ b2, Option.bind_some]; rfl
        · by_cases g8 : e2 - p ≤ 3
          · exact .inl ⟨g8, if_pos g8⟩
          · exact .inr ⟨by omega, if_neg g8⟩
        · by_cases g8 : e2 - p ≤ 3
          · rw [gt_ne (by omega), b5, show (if e2 - p < 3 then e2 - p else 3) = e2 - p by split <;> omega]
          · rw [if_neg g8] at c; omega
        · by_cases g8 : e2 - p ≤ 3
          · rw [if_pos g8] at c; omega
          · rw [if_neg g8] at c; omega
      · have o7 : rOk M r (pu Fa 0 7 (.int (Int32.ofNat (p + 1)))) := rOk_0 oa f7
        refine ⟨pu (pu Fa 0 7 (.int (Int32.ofNat (p + 1)))) 0 8 (.int (Int32.ofNat (if T p = 59 then 3 else 4))), if T p = 59 then 3 else 4, p, p + 1, st _ (fun v hv => ?_), rOk_0 o7 f8, by rw [gt_ne (by omega), gt_ne (by omega)]; exact ca6, by rw [gt_ne (by omega), gt_eq], gt_eq _ _ _, a4, .inr (.inr (.inr ⟨hp, gl, gd, rfl, ?_⟩)), fun c => ?_, fun c => ?_, fun i hi => by rw [pu_o hi, pu_o hi, ra i hi], fun l hl => by rw [pu_ne (by omega), pu_ne (by omega), ca l (by omega) (by omega) (by omega)]⟩
        · cases Option.some.inj (bA.symm.trans hv)
          rw [if_pos hp, if_neg nm1, wl, Option.bind_some, if_neg gl, if_pos rfl, wd, Option.bind_some, if_neg gd, if_pos rfl, r_gI, Option.bind_some, ca7, n_succ, r_sV _ oa, Option.bind_some, if_c (v := 59) (b := 59) rfl (by omega) (by omega)]
          by_cases g8 : T p = 59
          · rw [if_pos g8, if_pos g8, tX10_advance_J247, r_sV _ o7, Option.bind_some]; rfl
          · rw [if_neg g8, if_neg g8, tX10_advance_J247, r_sV _ o7, Option.bind_some]; rfl
        · by_cases g8 : T p = 59
          · exact .inl ⟨g8, if_pos g8⟩
          · exact .inr ⟨g8, if_neg g8⟩
        · by_cases g8 : T p = 59
          · rw [if_pos g8] at c; omega
          · rw [if_neg g8] at c; omega
        · by_cases g8 : T p = 59
          · rw [if_pos g8] at c; omega
          · rw [if_neg g8] at c; omega
  · refine ⟨pu Fa 0 8 (.int 0), 0, p, p, st _ (fun v hv => ?_), rOk_0 oa f8, by rw [gt_ne (by omega)]; exact ca6, by rw [gt_ne (by omega)]; exact ca7, gt_eq _ _ _, a4, .inl ⟨rfl, by omega, rfl⟩, fun c => by omega, fun c => by omega, fun i hi => by rw [pu_o hi, ra i hi], fun l hl => by rw [pu_ne (by omega), ca l (by omega) (by omega) (by omega)]⟩
    cases Option.some.inj (bA.symm.trans hv)
    rw [if_neg hp, if_pos rfl, r_sV _ oa, Option.bind_some]
end
