section
variable {M M' N : vMe} {x y r a d u hz n k : Nat} {G F C D : Nat → Nat → Value} {P : Nat → Value} {T : Nat → Nat} {len : Nat} {Gs : Nat → Nat}
theorem r_aJS {i l : Nat} {v : Value} (h : rOk M r F) (hi : i < 10) (ht : rTag i = 104) (hl : l < rLen i) : sA (rv M r F) (r + i) 104 (Int32.ofNat l) v = some (rv M r (pu F i l v)) := r_sA (i := i) v h hi ht hl
/-- what lies outside is as it was -/
theorem pS_mem {N2 : vMe} (S : pS x y d r len T G N M' P D F) (hyN : y < N.2.1) (hxN : x + 8 ≤ N.2.1) (hdN : d + 50 ≤ N.2.1) (g : ∀ q, q < N.2.1 → N2.1 q = N.1 q) (hb : N2.2.2.2 = N.2.2.2) : pS x y d r len T G N2 M' P D F := by
  obtain ⟨⟨a1, a2, a3, a4⟩, ⟨b1, b2, b3, b4⟩, ⟨c1, c2⟩, hd, hg⟩ := S
  refine ⟨⟨fun i hi => by rw [g _ (by omega)]; exact a1 i hi, ⟨by rw [hb]; exact a2.1, a2.2⟩, a3, a4⟩, ⟨?_, b2, b3, by rw [hb]; exact b4⟩, ⟨fun i hi => by rw [g _ (by omega)]; exact c1 i hi, ⟨by rw [hb]; exact c2.1, c2.2⟩⟩, hd, hg⟩
  unfold hY; rw [g y hyN]; exact b1
/-- a line that makes a set -/
theorem setL_P {c p e : Nat} (J : pJ x y d r len u hz n k T Gs G N M' P D F c p e) (hd : tkD Gs) (hc : c ≠ 0) (hyN : y < N.2.1) (hxN : x + 8 ≤ N.2.1) (hdN : d + 50 ≤ N.2.1) (hbN : N.2.2.2 ≤ N.2.1) (ho : ∀ q, own x r G q → q < N.2.1) : outc x y d r len u hz T Gs G N M' P F n p (tX3_readSet Gs y N) (tX10_setLine r (rv M' r F)) := by
  obtain ⟨S, t, hP, hN, h11, hG4, hZ, hE⟩ := J
  have ce := tokC_e t.2.2.2.2.2.2.2.1 t.2.2.2.2.2.2.1
  have lt := ce.2.2.1 hc
  have hl := S.1.2.2.2
  have b1 := S.2.1.1
  have hn5 := hP.1.2.2.1.2
  have g2 : gA N y 6 2 = some d := by rw [← b1.eq]; exact p_A S.2.1.2.2.1
  have gn : gI N d 8 5 = some (Int32.ofNat n) := by rw [B_I0 S.2.2.1.1]; rw [(simP_cnt hP).2.1]
  have dR := S.2.2.2.1
  have cnt : ∀ F', gt F' 1 0 = Int32.ofNat n → aI (rv M' r F') (r + 1) 101 0 = some (Int32.ofNat n) := fun F' h => by
    have := r_now (M := M') (r := r) (F := F') (n := 0) (by omega)
    rw [h] at this; exact this
  have sr : tX10_setLine r (rv M' r F) = if 5 ≤ n then tX10_setLine_J19 r (Int32.ofNat n) r 5 0 (rv M' r F) else tX10_setLine_J19 r (Int32.ofNat n) r 5 1 (rv M' r F) := by
    rw [tX10_setLine, rA1 dR.1, Option.bind_some, cnt F hP.1.2.2.1.1, Option.bind_some, if_ge (v := 5) (b := 5) rfl (by omega) (by omega)]
  have lt5 : Int32.ofNat n < (5 : Int32) ↔ n < 5 := n_lt (b := 5) (by omega) (by omega)
  have k0 : ∀ (A B : Nat), A + 0 ≤ A + 5 ∧ B + 0 ≤ B + 100 := fun A B => ⟨by omega, by omega⟩
  have k1 : ∀ (A B : Nat), A ≤ A + 5 ∧ B ≤ B + 100 := fun A B => ⟨by omega, by omega⟩
  by_cases h5 : n < 5
  · obtain ⟨P1, F1, c1, p1, e1, q1, q2, S1, t1, q5, q6, q7, q8⟩ := next_P (Gs := Gs) S t.2.2.2.2.1 t.2.2.2.2.2.1 ce.2.1
    have c5 := tokC_5 t1.2.2.2.2.2.2.2.1
    have ce1 := tokC_e t1.2.2.2.2.2.2.2.1 t1.2.2.2.2.2.2.1
    have cc : Gs (tIx c1) = Gs 100 ↔ c1 = 1 := tIx_eq hd (j := 1) c5 (by omega)
    have b0 := S1.2.1.2.1
    have b3 := S1.2.1.2.2.1
    have dR1 := S1.2.2.2.1
    have h11' : gt F1 0 11 = 0 := by unfold gt; rw [q8 11 (by omega)]; exact h11
    have st : tX10_starts r 5 1 (rv M' r F) = some (1, rv M' r F1) := by rw [tX10_starts, if_neg n10, if_pos r_tag, q2, Option.bind_some]
    by_cases h1 : c1 = 1
    · subst h1
      obtain ⟨lf, hlf⟩ := nm_f (simNm_pv (P2 := P1) hN (pSy S))
      obtain ⟨z, z1, z2⟩ := c_named (Gs := Gs) (s0 := p1) (e := e1) S1.1.1 S1.1.2.1 S1.1.2.2.1 S1.2.2.1.1 S1.2.2.1.2 (simP_cnt hP).2.1 hn5 (fun s hs => (hlf s hs).1) (by omega) ce1.1
      obtain ⟨zr', y1, y2⟩ := r_named (M := M') (r := r) (F := F1) (j := 5) (v := vJ (F1 0 10)) (by omega) rfl rfl hn5
      have tl := tokC_1 t1.2.2.2.2.2.2.2.1
      have ez : zr' = z := fst1_u y2 z2 (fun s hs => by
        rw [q7 5 (by omega), (hlf s hs).2.2, t1.2.2.2.2.2.2.2.2.2 rfl]
        exact (nm_pk (hlf s hs).2.1 tl.2 tl.1.2.2.1).symm)
      subst ez
      have rd : tX10_setLine r (rv M' r F) = if zr' = ((-1) : Int32) then tX10_setLine_J66 r (Int32.ofNat n) (vJ (F1 0 10)) r 2 1 (rv M' r F1) else tX10_setLine_J66 r (Int32.ofNat n) (vJ (F1 0 10)) r 2 0 (rv M' r F1) := by
        rw [sr, if_neg (by omega), tX10_setLine_J19, if_pos r_tag, st, Option.bind_some, if_neg n10, r_gI, Option.bind_some, t1.2.1, if_c (v := 1) (b := 1) rfl (by omega) (by omega), if_pos rfl, r_gJ, Option.bind_some, rA15 dR1.1, Option.bind_some, y1, Option.bind_some]
      have g23 : gA (pv N y P1) y 6 2 = some d := p_A b3
      have cdp : ∀ Z : Option (Int32 × vMe), (if zr' = ((-1) : Int32) then (if N.2.1 + 5 ≤ N.2.1 + 5 ∧ N.2.2.1 + 100 ≤ N.2.2.1 + 100 then ((tX3_wordText y (pv N y P1)).bind fun z14 => if z14.2.2.1 + 0 ≤ N.2.1 + 5 ∧ z14.2.2.2.1 + 0 ≤ N.2.2.1 + 100 then (if (z14.2.1 d).1 = 8 then ((tX5_beginSet d z14.1 z14.2).bind fun z15 => if z15.2.2.1 + 0 ≤ N.2.1 + 5 ∧ z15.2.2.2.1 + 0 ≤ N.2.2.1 + 100 then (if (z15.2.1 y).1 = 6 then ((tX3_toNextToken Gs y z15.2).bind fun z16 => if z16.2.2.1 ≤ N.2.1 + 5 ∧ z16.2.2.2.1 ≤ N.2.2.1 + 100 then some (1, z16.2) else none) else none) else none) else none) else none) else none)
          else ((tX3_fail y 2 (pv N y P1)).bind fun z17 => if z17.2.2.1 ≤ N.2.1 + 5 ∧ z17.2.2.2.1 ≤ N.2.2.1 + 100 then if fits .boolean (.int z17.1) = true then some (z17.1, z17.2) else none else none)) = Z → tX3_readSet Gs y N = Z := fun Z hZ => by
        rw [← hZ, tX3_readSet, g2, Option.bind_some, gn, Option.bind_some, if_pos (lt5.mpr h5), if_pos (k0 _ _), if_pos (p_tg S), q1, Option.bind_some, p_A t1.1, Option.bind_some, if_pos (cc.mpr rfl), g23, Option.bind_some, p_A b0.1, Option.bind_some, p_I, Option.bind_some, p_I, Option.bind_some, t1.2.2.1, t1.2.2.2.2.1, if_pos (show (pv N y P1).2.1 + 0 ≤ N.2.1 + 5 ∧ (pv N y P1).2.2.1 + 0 ≤ N.2.2.1 + 100 from k0 _ _), if_pos (T_b S1.2.2.1.1), z1, Option.bind_some]
        by_cases g : zr' = ((-1) : Int32)
        · rw [if_pos g, if_pos g, g23, Option.bind_some]
          rw [if_pos (show (pv N y P1).2.1 + 5 ≤ N.2.1 + 5 ∧ (pv N y P1).2.2.1 + 100 ≤ N.2.2.1 + 100 from ⟨Nat.le_refl _, Nat.le_refl _⟩), if_pos p_tag, if_pos ⟨Nat.le_refl _, Nat.le_refl _⟩]
        · rw [if_neg g, if_neg g, if_pos (show (pv N y P1).2.1 + 0 ≤ N.2.1 + 5 ∧ (pv N y P1).2.2.1 + 0 ≤ N.2.2.1 + 100 from k0 _ _), if_pos p_tag]
      rcases z2 with ⟨s, s1, s2, -, -⟩ | ⟨s1, -⟩
      · left
        have nz : ¬ zr' = (-1 : Int32) := by rw [s2]; exact ne_m1 (by omega)
        obtain ⟨P2, F2, w1, w2, w3, w4, w5, w6, w7, w8, w9⟩ := fail_P (j := 2) S1 t1 h11'
        rw [pv_pv] at w1 w3
        refine ⟨pv N y P2, P2, D, F2, cdp _ ?_, ?_, w3, ⟨w4.trans w5.symm, w6⟩, fr_pv (fun k hk => by rw [w7 k (by omega), q6 k (by omega)]) (fun i hi => by rw [w8 i hi, q7 i hi]) (fun l hl => by rw [w9 l (by omega) (by omega), q8 l (by omega)]), rfl⟩
        · rw [if_neg nz, w1, Option.bind_some, if_pos (show (pv N y P2).2.1 ≤ N.2.1 + 5 ∧ (pv N y P2).2.2.1 ≤ N.2.2.1 + 100 from k1 _ _), if_pos fz0]
        · rw [rd, if_neg nz, tX10_setLine_J66, if_pos r_tag, tX10_starts, if_pos rfl, if_pos r_tag, w2, Option.bind_some, if_pos fz0, Option.bind_some, if_pos rfl]
      · right
        obtain ⟨Z, l, v1, v2, v3, v4, v5, v6⟩ := word_P S1 t1 hyN hxN hbN
        have S2 : pS x y d r len T G Z M' P1 D F1 := pS_mem S1 hyN hxN hdN v3 (by rw [v4])
        obtain ⟨D2, u1, u2, u3⟩ := c_beginSet (M := Z) (a := d) (w := N.2.1 + 2) S2.2.2.1.2 h5 (simP_cnt hP).2.1
        rw [S2.2.2.1.1.eq] at u1
        -- the reference
        obtain ⟨F2, c2, p2, e2, r1, r2, r3, r4, r5⟩ := r_next S1 (e := e1) t1.2.2.2.2.2.1 ce1.2.1
        obtain ⟨F3, hF3⟩ : ∃ F3, F3 = pu (pu F2 5 n (.long (vJ (F1 0 10)))) 1 0 (.int (Int32.ofNat (n + 1))) := ⟨_, rfl⟩
        have o5 : rOk M' r (pu F2 5 n (.long (vJ (F1 0 10)))) := pu_ok r2.2.2.2.1.1 (.inl (by omega))
        have o6 : rOk M' r F3 := hF3 ▸ pu_ok o5 (.inl (by omega))
        have f0 : F3 0 = F2 0 := by rw [hF3, pu_o (by omega), pu_o (by omega)]
        have fo : ∀ i, i ≠ 1 → i ≠ 5 → F3 i = F2 i := fun i i1 i5 => by rw [hF3, pu_o i1, pu_o i5]
        have now0 : gt F2 1 0 = Int32.ofNat n := by rw [gt_row (r4 1 (by omega)), gt_row (q7 1 (by omega))]; exact hP.1.2.2.1.1
        have S3 : pS x y d r len T G (cv Z d D2) M' P1 D2 F3 := by
          obtain ⟨⟨A1, A2, A3, A4⟩, ⟨B1, B2, B3, B4⟩, -, ⟨E1, E2, E3⟩, ⟨g1, g2', g3⟩⟩ := S2
          refine ⟨⟨A1.cv (.inl g3), A2, A3, A4⟩, ⟨?_, B2, B3, B4⟩, ⟨hB_cv, u2⟩, ⟨o6, r2.2.2.2.1.2.1.row (fo 3 (by omega) (by omega)), by unfold gt; rw [f0]; exact r2.2.2.2.1.2.2⟩, ⟨g1, g2', g3⟩⟩
          unfold hY
          rw [cv_out (by omega)]; exact B1
        obtain ⟨P3, c3, p3, e3, w1, w2, w3, w4⟩ := c_next (Gs := Gs) S3 t1.2.2.2.2.1 ce1.2.1
        obtain ⟨tt, le⟩ := tk_join w3 (r3.row (F2 := F3) (fun l _ _ => by rw [f0]))
        have hP2 : simP D2 F3 u hz (n + 1) k := simP_bgn hP h5 u3 hZ (by rw [hF3, gt_eq]) (fun l hl => by rw [hF3, gt_ne (by omega), gt_ne (by omega), gt_row (r4 1 (by omega)), gt_row (q7 1 (by omega))])
        have ty : ((cv Z d D2).1 y).1 = 6 := pSy S3
        have Z1 : Z.2.1 = N.2.1 + 4 := by rw [v4]; rfl
        have Z2 : Z.2.2.1 = N.2.2.1 + 24 + (e1 - p1) := by rw [v4]; rfl
        have Z3 : Z.2.2.2 = N.2.2.2 := by rw [v4]; rfl
        have lt1 := tl.2
        have nmZ : simNm (cv Z d D2) x r G D2 F3 5 (n + 1) := fun s hs => by
          by_cases es : s = n
          · subst es
            refine ⟨N.2.1 + 2, l, u3.1, ⟨N.2.1 + 3, v2.same (cv_out (by show ¬ (d ≤ N.2.1 + 2 ∧ N.2.1 + 2 < d + 50); omega)) (cv_out (by show ¬ (d ≤ N.2.1 + 3 ∧ N.2.1 + 3 < d + 50); omega)), fun g => by have := ho _ g; omega, fun g => by have := ho _ g; omega, by show N.2.1 + 2 < Z.2.1; omega, by show N.2.1 + 3 < Z.2.1; omega⟩, v5, ?_⟩
            rw [hF3, pu_ne (by omega), vJ_pu, v6, t1.2.2.2.2.2.2.2.2.2 rfl]
          · obtain ⟨q, l', i1, ⟨p', i2, i3, i4, i5, i6⟩, i7, i8⟩ := simNm_pv (P2 := P1) hN (pSy S) s (by omega)
            have e1' : ¬ (d ≤ q ∧ q < d + 50) := fun g => i3 (own_bk (i := 1) (by omega) (bk1 hG4) g.1 g.2)
            have e2' : ¬ (d ≤ p' ∧ p' < d + 50) := fun g => i4 (own_bk (i := 1) (by omega) (bk1 hG4) g.1 g.2)
            have l5 : q < N.2.1 := i5
            have l6 : p' < N.2.1 := i6
            refine ⟨q, l', by rw [u3.2.2.2.2.2.2.2.2.2 (4 + 8 * s) 4 (by omega) (by omega)]; exact i1, ⟨p', (i2.same (v3 q l5) (v3 p' l6)).same (cv_out e1') (cv_out e2'), i3, i4, Nat.lt_of_lt_of_le l5 (show N.2.1 ≤ Z.2.1 by omega), Nat.lt_of_lt_of_le l6 (show N.2.1 ≤ Z.2.1 by omega)⟩, i7, ?_⟩
            have e8 : F3 5 s = F1 5 s := by rw [hF3, pu_ne (by omega), pu_ne (by omega), r4 5 (by omega)]
            rw [e8, q7 5 (by omega)]; exact i8
        refine ⟨pv (cv Z d D2) y P3, P3, D2, F3, n + 1, k, c3, p3, e3, cdp _ ?_, ?_, ⟨w2, tt, hP2, simNm_pv nmZ ty, ?_, hG4, fun s h1 hs w hw => ?_, hE.mv (fun k hk => by rw [w4 k hk, q6 k hk]) (by rw [f0, r5 12 (by omega), q8 12 (by omega)])⟩, ?_, ?_, .inr ⟨rfl, by show Z.2.1 = _; omega, by show Z.2.2.1 ≤ _; omega⟩⟩
        · have v1' : tX3_wordText y (pv N y P1) = some (N.2.1 + 2, Z) := v1
          rw [if_pos s1, if_pos ⟨Nat.le_refl _, Nat.le_refl _⟩, v1', Option.bind_some, if_pos ⟨by show Z.2.1 + 0 ≤ _; omega, by show Z.2.2.1 + 0 ≤ _; omega⟩, if_pos (T_b S2.2.2.1.1), u1, Option.bind_some, if_pos ⟨by show Z.2.1 + 0 ≤ _; omega, by show Z.2.2.1 + 0 ≤ _; omega⟩, if_pos ty, w1, Option.bind_some, if_pos ⟨by show Z.2.1 ≤ _; omega, by show Z.2.2.1 ≤ _; omega⟩]
        · have c0 : aI (rv M' r (pu F2 5 n (.long (vJ (F1 0 10))))) (r + 1) 101 0 = some (Int32.ofNat n) := cnt _ (by rw [gt_ne (by omega)]; exact now0)
          have c9 : sA (rv M' r (pu F2 5 n (.long (vJ (F1 0 10))))) (r + 1) 101 0 (.int (Int32.ofNat (n + 1))) = some (rv M' r F3) := by rw [hF3]; exact r_nowS (n := 0) o5 (by omega)
          rw [rd, if_pos s1, tX10_setLine_J66, if_pos r_tag, tX10_starts, if_neg n10, if_pos r_tag, r1, Option.bind_some, Option.bind_some, if_neg n10, rA15 r2.2.2.2.1.1, Option.bind_some, r_aJS r2.2.2.2.1.1 (i := 5) (by omega) rfl h5, Option.bind_some, rA1 o5, Option.bind_some, c0, Option.bind_some, n_succ, c9, Option.bind_some]
        · unfold gt; rw [f0, r5 11 (by omega), q8 11 (by omega)]; exact h11
        · have : oS F3 s w = oS F s w := by
            show gt F3 1 (aS s w) = gt F 1 (aS s w)
            rw [hF3, gt_ne (by unfold aS; omega), gt_ne (by omega), gt_row (r4 1 (by omega)), gt_row (q7 1 (by omega))]
          rw [this]; exact hZ s (by omega) hs w hw
        · refine ⟨fun q g1 g2 g3 => ?_, Z3, by show N.2.1 ≤ Z.2.1; omega, fun k hk => by rw [w4 k (by omega), q6 k (by omega)], fun i hi => by rw [fo i (by omega) (by omega), r4 i (by omega), q7 i (by omega)], fun l hl => by rw [f0, r5 l (by omega), q8 l (by omega)]⟩
          rw [pv_out g1, cv_out g2, v3 q g3, pv_out g1]
        · have := ce1.2.2.1 (by omega); omega
    · left
      obtain ⟨P2, F2, w1, w2, w3, w4, w5, w6, w7, w8, w9⟩ := fail_P (j := 1) S1 t1 h11'
      rw [pv_pv] at w1 w3
      refine ⟨pv N y P2, P2, D, F2, ?_, ?_, w3, ⟨w4.trans w5.symm, w6⟩, fr_pv (fun k hk => by rw [w7 k (by omega), q6 k (by omega)]) (fun i hi => by rw [w8 i hi, q7 i hi]) (fun l hl => by rw [w9 l (by omega) (by omega), q8 l (by omega)]), rfl⟩
      · rw [tX3_readSet, g2, Option.bind_some, gn, Option.bind_some, if_pos (lt5.mpr h5), if_pos (k0 _ _), if_pos (p_tg S), q1, Option.bind_some, p_A t1.1, Option.bind_some, if_neg (fun w => h1 (cc.mp w)), if_pos (show (pv N y P1).2.1 + 0 ≤ N.2.1 + 5 ∧ (pv N y P1).2.2.1 + 0 ≤ N.2.2.1 + 100 from k0 _ _), if_pos p_tag, w1, Option.bind_some, if_pos (show (pv N y P2).2.1 ≤ N.2.1 + 5 ∧ (pv N y P2).2.2.1 ≤ N.2.2.1 + 100 from k1 _ _), if_pos fz0]
      · rw [sr, if_neg (by omega), tX10_setLine_J19, if_pos r_tag, st, Option.bind_some, if_neg n10, r_gI, Option.bind_some, t1.2.1, if_c (v := 1) (b := 1) rfl (by omega) (by omega), if_neg h1, if_pos r_tag, w2, Option.bind_some, if_pos fz0]
  · left
    obtain ⟨P2, F2, w1, w2, w3, w4, w5, w6, w7, w8, w9⟩ := fail_P (j := 5) S t h11
    refine ⟨pv N y P2, P2, D, F2, ?_, ?_, w3, ⟨w4.trans w5.symm, w6⟩, fr_pv (fun k hk => w7 k (by omega)) w8 (fun l hl => w9 l (by omega) (by omega)), rfl⟩
    · rw [tX3_readSet, g2, Option.bind_some, gn, Option.bind_some, if_neg (fun w => h5 (lt5.mp w)), if_pos (k0 _ _), if_pos (p_tg S), w1, Option.bind_some, if_pos (show (pv N y P2).2.1 ≤ N.2.1 + 5 ∧ (pv N y P2).2.2.1 ≤ N.2.2.1 + 100 from k1 _ _), if_pos fz0]
    · rw [sr, if_pos (by omega), tX10_setLine_J19, if_pos r_tag, tX10_starts, if_pos rfl, if_pos r_tag, w2, Option.bind_some, if_pos fz0, Option.bind_some, if_pos rfl]
end
