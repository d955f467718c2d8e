section
variable {M M' N : vMe} {x y r a d u hz n k : Nat} {G F C D : Nat → Nat → Value} {P : Nat → Value} {T : Nat → Nat} {len : Nat} {Gs : Nat → Nat}
theorem pv_pv {P1 P2 : Nat → Value} : pv (pv N y P1) y P2 = pv N y P2 := by
  refine Prod.ext (funext fun q => ?_) rfl
  by_cases g : q = y
  · rw [g, pv_at, pv_at]
  · rw [pv_out g, pv_out g, pv_out g]
/-- the numbers of a line -/
theorem mem_L {s : Nat} {b : Int32} (hb : b = 0 ∨ b = 1) (hd : tkD Gs) (hs : s < n) : ∀ (q f f' i : Nat) (N : vMe) (P : Nat → Value) (D F : Nat → Nat → Value) (c p e : Nat), pJ x y d r len u hz n k T Gs G N M' P D F c p e → gt F 0 16 = Int32.ofNat s → len - p ≤ q → q < f → q < f' → 1 ≤ i → i ≤ p →
    (∃ N2 P2 D2 F2, tX3_readMembers_L22 Gs y b (Int32.ofNat s) f (Int32.ofNat i) N = some (.inl 0, N2) ∧ tX10_membersLine_L11 r b f' 0 (rv M' r F) = some (.inl 0, rv M' r F2) ∧ pS x y d r len T G N2 M' P2 D2 F2 ∧ er P2 F2 ∧ fr y d N N2 P P2 F F2 ∧ N2.2 = N.2) ∨
    (∃ N2 P2 D2 F2 c2 p2 e2, tX3_readMembers_L22 Gs y b (Int32.ofNat s) f (Int32.ofNat i) N = some (.inr (), N2) ∧ tX10_membersLine_L11 r b f' 0 (rv M' r F) = some (.inr (), rv M' r F2) ∧ pJ x y d r len u hz n k T Gs G N2 M' P2 D2 F2 c2 p2 e2 ∧ fr y d N N2 P P2 F F2 ∧ p ≤ p2 ∧ N2.2 = N.2) := by
  intro q
  induction q with
  | zero =>
    intro f f' i N P D F c p e J h16 hq hf hf' hi hip
    obtain ⟨f, rfl⟩ : ∃ g, f = g + 1 := ⟨f - 1, by omega⟩
    obtain ⟨f', rfl⟩ : ∃ g, f' = g + 1 := ⟨f' - 1, by omega⟩
    right
    have J0 := J
    obtain ⟨S, t, hP, hN, h11, hG4⟩ := J
    have hl := S.1.2.2.2
    have pl := t.2.2.2.2.2.2.1
    have c0 : c = 0 := by have := t.2.2.2.2.2.2.2.1; unfold tokC at this; omega
    subst c0
    have b1 := S.2.1.1
    have g1 : gI N y 6 1 = some (Int32.ofNat len) := by rw [← b1.eq, p_I, S.2.1.2.1.2]
    have g3 : gA N y 6 3 = some (Gs (tIx 0)) := by rw [← b1.eq]; exact p_A t.1
    have cc0 : Gs (tIx 0) = Gs 101 ↔ 0 = 2 := tIx_eq hd (j := 2) (by omega) (by omega)
    refine ⟨N, P, D, F, 0, p, e, ?_, ?_, J0, fr.rf, Nat.le_refl _, rfl⟩
    · rw [tX3_readMembers_L22, if_neg (n_z (by omega) (by omega)), g1, Option.bind_some]
      by_cases g : Int32.ofNat len ≤ Int32.ofNat i
      · rw [if_pos g]
      · rw [if_neg g, g3, Option.bind_some, if_neg (fun w => absurd (cc0.mp w) (by omega))]
    · rw [tX10_membersLine_L11, if_pos rfl, r_gI, Option.bind_some, t.2.1, if_c (v := 2) (b := 2) rfl (by omega) (by omega), if_neg (by omega)]
  | succ q ih =>
    intro f f' i N P D F c p e J h16 hq hf hf' hi hip
    obtain ⟨f, rfl⟩ : ∃ g, f = g + 1 := ⟨f - 1, by omega⟩
    obtain ⟨f', rfl⟩ : ∃ g, f' = g + 1 := ⟨f' - 1, by omega⟩
    have J0 := J
    obtain ⟨S, t, hP, hN, h11, hG4⟩ := J
    have hl := S.1.2.2.2
    have pl := t.2.2.2.2.2.2.1
    have tc := t.2.2.2.2.2.2.2.1
    have c5 := tokC_5 tc
    have b1 := S.2.1.1
    have g1 : gI N y 6 1 = some (Int32.ofNat len) := by rw [← b1.eq, p_I, S.2.1.2.1.2]
    have g3 : gA N y 6 3 = some (Gs (tIx c)) := by rw [← b1.eq]; exact p_A t.1
    have cc : Gs (tIx c) = Gs 101 ↔ c = 2 := tIx_eq hd (j := 2) c5 (by omega)
    by_cases h2 : c = 2
    · have pl2 : p < len := by unfold tokC at tc; omega
      have sc : tX3_readMembers_L22 Gs y b (Int32.ofNat s) (f + 1) (Int32.ofNat i) N = tX3_readMembers_J44_22 Gs (tX3_readMembers_L22 Gs y b (Int32.ofNat s) f) y b (Int32.ofNat s) (Int32.ofNat i) N := by
        rw [tX3_readMembers_L22, if_neg (n_z (by omega) (by omega)), g1, Option.bind_some, if_neg (fun w => by have := (n_le (by omega) (by omega)).mp w; omega), g3, Option.bind_some, if_pos (cc.mpr h2)]
      have sr : tX10_membersLine_L11 r b (f' + 1) 0 (rv M' r F) = tX10_membersLine_J23_11 (tX10_membersLine_L11 r b f') r b (rv M' r F) := by
        rw [tX10_membersLine_L11, if_pos rfl, r_gI, Option.bind_some, t.2.1, if_c (v := 2) (b := 2) rfl (by omega) (by omega), if_pos h2]
      rw [sc, sr]
      rcases mem_J hb J0 hd hs h16 with ⟨P2, F2, w1, w2, w3, w4⟩ | ⟨N2, P2, D2, F2, c2, p2, e2, w1, w2, w3, w4, w5, w6, w7⟩
      · left
        exact ⟨pv N y P2, P2, D, F2, w1 _ _, w2 _, w3.1, w3.2.1, fr_pv w4 w3.2.2.1 w3.2.2.2, rfl⟩
      · rw [w2, w3, n_succ]
        rcases ih f f' (i + 1) N2 P2 D2 F2 c2 p2 e2 w4 w6 (by omega) (by omega) (by omega) (by omega) (by omega) with ⟨N3, P3, D3, F3, v1, v2, v3, v4, v5, v6⟩ | ⟨N3, P3, D3, F3, c3, p3, e3, v1, v2, v3, v4, v5, v6⟩
        · exact .inl ⟨N3, P3, D3, F3, v1, v2, v3, v4, w5.tr v5, v6.trans w7⟩
        · exact .inr ⟨N3, P3, D3, F3, c3, p3, e3, v1, v2, v3, w5.tr v4, by omega, v6.trans w7⟩
    · right
      refine ⟨N, P, D, F, c, p, e, ?_, ?_, J0, fr.rf, Nat.le_refl _, rfl⟩
      · rw [tX3_readMembers_L22, if_neg (n_z (by omega) (by omega)), g1, Option.bind_some]
        by_cases g : Int32.ofNat len ≤ Int32.ofNat i
        · rw [if_pos g]
        · rw [if_neg g, g3, Option.bind_some, if_neg (fun w => h2 (cc.mp w))]
      · rw [tX10_membersLine_L11, if_pos rfl, r_gI, Option.bind_some, t.2.1, if_c (v := 2) (b := 2) rfl (by omega) (by omega), if_neg h2]
/-- how a statement ends, on both sides -/
def outc (x y d r len u hz : Nat) (T Gs : Nat → Nat) (G : Nat → Nat → Value) (N M' : vMe) (P : Nat → Value) (F : Nat → Nat → Value) (n p : Nat) (tc tr : Option (Int32 × vMe)) : Prop :=
  (∃ N2 P2 D2 F2, tc = some (0, N2) ∧ tr = some (0, rv M' r F2) ∧ pS x y d r len T G N2 M' P2 D2 F2 ∧ er P2 F2 ∧ fr y d N N2 P P2 F F2 ∧ N2.2 = N.2) ∨
  (∃ N2 P2 D2 F2 n2 k2 c2 p2 e2, tc = some (1, N2) ∧ tr = some (1, rv M' r F2) ∧ pJ x y d r len u hz n2 k2 T Gs G N2 M' P2 D2 F2 c2 p2 e2 ∧ fr y d N N2 P P2 F F2 ∧ p < p2 ∧ ((n2 = n ∧ N2.2 = N.2) ∨ (n2 = n + 1 ∧ N2.2.1 = N.2.1 + 4 ∧ N2.2.2.1 ≤ N.2.2.1 + 32)))
theorem members_P {c p e : Nat} {b : Int32} (hb : b = 0 ∨ b = 1) (J : pJ x y d r len u hz n k T Gs G N M' P D F c p e) (hd : tkD Gs) (hc : c ≠ 0) : outc x y d r len u hz T Gs G N M' P F n p (tX3_readMembers Gs y b N) (tX10_membersLine r b (rv M' r F)) := by
  have ce := tokC_e J.2.1.2.2.2.2.2.2.2.1 J.2.1.2.2.2.2.2.2.1
  have lt := ce.2.2.1 hc
  rcases earl_P J hd with ⟨P1, P2, F2, q1, q2, q3, q4, q5⟩ | ⟨s, P1, F2, e1, c2, p2, e2, q0, q1, q2, q3, q4, q5, q6, q7, q8, q9, q10, q11, q12⟩
  · left
    refine ⟨pv N y P2, P2, D, F2, ?_, ?_, q4.1, q4.2.1, fr_pv q5 q4.2.2.1 q4.2.2.2, rfl⟩
    · rw [tX3_readMembers, if_pos (pSy J.1), q1, Option.bind_some, if_pos p_tag, q2, Option.bind_some, if_pos rfl]
    · rw [tX10_membersLine, if_pos r_tag, q3, Option.bind_some, if_pos rfl]
  · obtain ⟨P3, c3, p3, e3, w1, w2, w3, w4⟩ := c_next (Gs := Gs) q4 q5 q6
    obtain ⟨tt, le⟩ := tk_join w3 q8
    rw [pv_pv] at w1 w2
    have hn5 := J.2.2.1.1.2.2.1.2
    have J3 : pJ x y d r len u hz n k T Gs G (pv N y P3) M' P3 D F2 c3 p3 e3 := ⟨w2, tt, simP_row J.2.2.1 (fun l _ => by rw [gt_row (q11 1 (by omega))]), simNm_row (simNm_pv J.2.2.2.1 (pSy J.1)) (q11 5 (by omega)), by unfold gt; rw [q12 11 (by omega)]; exact J.2.2.2.2.1, J.2.2.2.2.2.1, J.2.2.2.2.2.2.1.row (q11 1 (by omega)), J.2.2.2.2.2.2.2.mv (fun k hk => by rw [w4 k hk, q10 k hk]) (q12 12 (by omega))⟩
    have f3 : fr y d N (pv N y P3) P P3 F F2 := fr_pv (fun k hk => by rw [w4 k (by omega), q10 k (by omega)]) q11 (fun l hl => q12 l (by omega))
    obtain ⟨f, hf⟩ : ∃ f, vF = f + 1 := ⟨vF - 1, by unfold vF; omega⟩
    have hl := J.1.1.2.2.2
    have fb : 601 < f := by have : vF = 100000 := rfl; omega
    have sc : tX3_readMembers Gs y b N = ((tX3_readMembers_J44_22 Gs (tX3_readMembers_L22 Gs y b (Int32.ofNat s) f) y b (Int32.ofNat s) 0 (pv N y P3)).bind fun z25 => Sum.elim (fun r27 => some (r27, z25.2)) (fun w26 => some (1, z25.2)) z25.1) := by
      rw [tX3_readMembers, if_pos (pSy J.1), q1, Option.bind_some, if_pos p_tag, q2, Option.bind_some, if_neg (ne_m1 (by omega)), if_pos p_tag, w1, Option.bind_some, hf, tX3_readMembers_L22, if_pos rfl]
    have sr : tX10_membersLine r b (rv M' r F) = ((tX10_membersLine_J23_11 (tX10_membersLine_L11 r b f) r b (rv M' r F2)).bind fun z39 => Sum.elim (fun r41 => some (r41, z39.2)) (fun w40 => some (1, z39.2)) z39.1) := by
      rw [tX10_membersLine, if_pos r_tag, q3, Option.bind_some, if_neg n10, hf, tX10_membersLine_L11, if_neg n10]
    rw [sc, sr]
    rcases mem_J hb J3 hd q0 q9 with ⟨P4, F4, v1, v2, v3, v4⟩ | ⟨N4, P4, D4, F4, c4, p4, e4, v1, v2, v3, v4, v5, v6, v7⟩
    · left
      refine ⟨pv (pv N y P3) y P4, P4, D, F4, ?_, ?_, v3.1, v3.2.1, f3.tr (fr_pv v4 v3.2.2.1 v3.2.2.2), rfl⟩
      · rw [v1, Option.bind_some]; rfl
      · rw [v2, Option.bind_some]; rfl
    · rw [v2, v3]
      rcases mem_L hb hd q0 (len - p4) f f 1 N4 P4 D4 F4 c4 p4 e4 v4 v6 (Nat.le_refl _) (by omega) (by omega) (by omega) (by omega) with ⟨N5, P5, D5, F5, u1, u2, u3, u4, u5, u6⟩ | ⟨N5, P5, D5, F5, c5, p5, e5, u1, u2, u3, u4, u5, u6⟩
      · left
        refine ⟨N5, P5, D5, F5, ?_, ?_, u3, u4, f3.tr (v5.tr u5), u6.trans v7⟩
        · rw [show (0 : Int32) + 1 = Int32.ofNat 1 from rfl, u1, Option.bind_some]; rfl
        · rw [u2, Option.bind_some]; rfl
      · right
        refine ⟨N5, P5, D5, F5, n, k, c5, p5, e5, ?_, ?_, u3, f3.tr (v5.tr u4), by omega, .inl ⟨rfl, u6.trans v7⟩⟩
        · rw [show (0 : Int32) + 1 = Int32.ofNat 1 from rfl, u1, Option.bind_some]; rfl
        · rw [u2, Option.bind_some]; rfl
/-- a line that clears a set -/
theorem clearL_P {c p e : Nat} (J : pJ x y d r len u hz n k T Gs G N M' P D F c p e) (hd : tkD Gs) (hc : c ≠ 0) : outc x y d r len u hz T Gs G N M' P F n p (tX3_readClear Gs y N) (tX10_clearLine r (rv M' r F)) := by
  have ce := tokC_e J.2.1.2.2.2.2.2.2.2.1 J.2.1.2.2.2.2.2.2.1
  have lt := ce.2.2.1 hc
  rcases earl_P J hd with ⟨P1, P2, F2, q1, q2, q3, q4, q5⟩ | ⟨s, P1, F2, e1, c2, p2, e2, q0, q1, q2, q3, q4, q5, q6, q7, q8, q9, q10, q11, q12⟩
  · left
    refine ⟨pv N y P2, P2, D, F2, ?_, ?_, q4.1, q4.2.1, fr_pv q5 q4.2.2.1 q4.2.2.2, rfl⟩
    · rw [tX3_readClear, if_pos (pSy J.1), q1, Option.bind_some, if_pos p_tag, q2, Option.bind_some, if_pos rfl]
    · rw [tX10_clearLine, if_pos r_tag, q3, Option.bind_some, if_pos rfl]
  · right
    have hn5 := J.2.2.1.1.2.2.1.2
    have hP2 : simP D F2 u hz n k := simP_row J.2.2.1 (fun l _ => by rw [gt_row (q11 1 (by omega))])
    obtain ⟨D2, F3, o1, o2, o3, o4, o5, o6, o7, o8⟩ := clear_PF (M := pv N y P1) (M' := M') q4.2.2.1.2 q4.2.2.2.1.1 hP2 q0
    rw [q4.2.2.1.1.eq] at o1
    have S3 : pS x y d r len T G (cv (pv N y P1) d D2) M' P1 D2 F3 := pS_cv q4 o3 o4 o5
    obtain ⟨P3, c3, p3, e3, w1, w2, w3, w4⟩ := c_next (Gs := Gs) S3 q5 q6
    have k0 := o5 0 (by omega) (by omega)
    obtain ⟨tt, le⟩ := tk_join w3 (q8.row (F2 := F3) (fun l _ _ => by rw [k0]))
    have ty : ((cv (pv N y P1) d D2).1 y).1 = 6 := pSy S3
    refine ⟨pv (cv (pv N y P1) d D2) y P3, P3, D2, F3, n, k, c3, p3, e3, ?_, ?_, ⟨w2, tt, o7, simNm_pv (simNm_cv (simNm_row (simNm_row (simNm_pv J.2.2.2.1 (pSy J.1)) (q11 5 (by omega))) (o5 5 (by omega) (by omega))) hn5 J.2.2.2.2.2.1 o6) ty, ?_, J.2.2.2.2.2.1, (J.2.2.2.2.2.2.1.row (q11 1 (by omega))).fr q0 o8, J.2.2.2.2.2.2.2.mv (fun k hk => by rw [w4 k hk, q10 k hk]) (by rw [k0, q12 12 (by omega)])⟩, ?_, by omega, .inl ⟨rfl, rfl⟩⟩
    · rw [tX3_readClear, if_pos (pSy J.1), q1, Option.bind_some, if_pos p_tag, q2, Option.bind_some, if_neg (ne_m1 (by omega)), p_A q4.2.1.2.2.1, Option.bind_some, if_pos (T_b q4.2.2.1.1), o1, Option.bind_some, if_pos ty, w1, Option.bind_some]
    · rw [tX10_clearLine, if_pos r_tag, q3, Option.bind_some, if_neg n10, r_gI, Option.bind_some, q9, if_pos r_tag, o2, Option.bind_some]
    · unfold gt; rw [k0, q12 11 (by omega)]; exact J.2.2.2.2.1
    · exact ⟨fun q g1 g2 _ => by rw [pv_out g1, cv_out g2, pv_out g1], rfl, Nat.le_refl _, fun k hk => by rw [w4 k (by omega), q10 k (by omega)], fun i hi => by rw [o5 i (by omega) (by omega), q11 i (by omega)], fun l hl => by rw [k0, q12 l (by omega)]⟩
/-- a line that makes a mark -/
theorem markL_P {c p e : Nat} (J : pJ x y d r len u hz n k T Gs G N M' P D F c p e) (hc : c ≠ 0) : outc x y d r len u hz T Gs G N M' P F n p (tX3_readMark Gs y N) (tX10_markLine r (rv M' r F)) := by
  obtain ⟨S, t, hP, hN, h11, hG4, hZ, hE⟩ := J
  have ce := tokC_e t.2.2.2.2.2.2.2.1 t.2.2.2.2.2.2.1
  have lt := ce.2.2.1 hc
  have b1 := S.2.1.1
  have hn5 := hP.1.2.2.1.2
  have hk8 := hP.1.2.2.2.2
  have g2 : gA N y 6 2 = some d := by rw [← b1.eq]; exact p_A S.2.1.2.2.1
  have gk : gI N d 8 6 = some (Int32.ofNat k) := by rw [B_I0 S.2.2.1.1, hP.2.1.2.2.2.1, hP.1.2.2.2.1]
  have dR := S.2.2.2.1
  have rk4 : ∀ F', gt F' 1 4 = Int32.ofNat k → aI (rv M' r F') (r + 1) 101 4 = some (Int32.ofNat k) := fun F' h => by
    have := r_now (M := M') (r := r) (F := F') (n := 4) (by omega)
    rw [h] at this; exact this
  have sr : tX10_markLine r (rv M' r F) = if 8 ≤ k then tX10_markLine_J18 r r 5 0 (rv M' r F) else tX10_markLine_J18 r r 5 1 (rv M' r F) := by
    rw [tX10_markLine, rA1 dR.1, Option.bind_some, rk4 F hP.1.2.2.2.1, Option.bind_some, if_ge (v := 8) (b := 8) rfl (by omega) (by omega)]
  have lt8 : Int32.ofNat k < (8 : Int32) ↔ k < 8 := n_lt (b := 8) (by omega) (by omega)
  by_cases h8 : k < 8
  · right
    obtain ⟨F1, c2, p2, e2, w1, w2, w3, w4, w5⟩ := r_next S t.2.2.2.2.2.1 ce.2.1
    have hP1 : simP D F1 u hz n k := simP_row hP (fun l _ => by rw [gt_row (w4 1 (by omega))])
    obtain ⟨D2, F3, o1, o2, o3, o4, o5, o6, o7, -, o8⟩ := mark_PF (M := N) (M' := M') S.2.2.1.2 w2.2.2.2.1.1 hP1 h8
    rw [S.2.2.1.1.eq] at o1
    have S3 : pS x y d r len T G (cv N d D2) M' P D2 F3 := pS_cv w2 o3 o4 o5
    obtain ⟨P3, c3, p3, e3, v1, v2, v3, v4⟩ := c_next (Gs := Gs) S3 t.2.2.2.2.1 ce.2.1
    have k0 := o5 0 (by omega) (by omega)
    obtain ⟨tt, le⟩ := tk_join v3 (w3.row (F2 := F3) (fun l _ _ => by rw [k0]))
    have ty : ((cv N d D2).1 y).1 = 6 := pSy S3
    refine ⟨pv (cv N d D2) y P3, P3, D2, F3, n, k + 1, c3, p3, e3, ?_, ?_, ⟨v2, tt, o7, simNm_pv (simNm_cv (simNm_row (simNm_row hN (w4 5 (by omega))) (o5 5 (by omega) (by omega))) hn5 hG4 o6) ty, ?_, hG4, fun s h1 h5 w hw => by rw [o8 s h5 w hw]; exact (hZ.row (w4 1 (by omega))) s h1 h5 w hw, hE.mv v4 (by rw [k0, w5 12 (by omega)])⟩, ?_, by omega, .inl ⟨rfl, rfl⟩⟩
    · rw [tX3_readMark, g2, Option.bind_some, gk, Option.bind_some, if_pos (lt8.mpr h8), Option.bind_some, if_pos (T_b S.2.2.1.1), o1, Option.bind_some, if_pos ty, v1, Option.bind_some]
    · rw [sr, if_neg (by omega), tX10_markLine_J18, if_pos r_tag, tX10_starts, if_neg n10, if_pos r_tag, w1, Option.bind_some, Option.bind_some, if_neg n10, if_pos r_tag, o2, Option.bind_some]
    · unfold gt; rw [k0, w5 11 (by omega)]; exact h11
    · exact ⟨fun q g1 g2 _ => by rw [pv_out g1, cv_out g2], rfl, Nat.le_refl _, fun k hk => v4 k (by omega), fun i hi => by rw [o5 i (by omega) (by omega), w4 i (by omega)], fun l hl => by rw [k0, w5 l (by omega)]⟩
  · left
    obtain ⟨P2, F2, q1, q2, q3, q4, q5, q6, q7, q8, q9⟩ := fail_P (j := 5) S t h11
    refine ⟨pv N y P2, P2, D, F2, ?_, ?_, q3, ⟨q4.trans q5.symm, q6⟩, fr_pv (fun k hk => q7 k (by omega)) q8 (fun l hl => q9 l (by omega) (by omega)), rfl⟩
    · rw [tX3_readMark, g2, Option.bind_some, gk, Option.bind_some, if_neg (fun w => h8 (lt8.mp w)), if_pos (p_tg S), q1, Option.bind_some, if_pos fz0]
    · rw [sr, if_pos (by omega), tX10_markLine_J18, if_pos r_tag, tX10_starts, if_pos rfl, if_pos r_tag, q2, Option.bind_some, if_pos fz0, Option.bind_some, if_pos rfl]
end
