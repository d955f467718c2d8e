section
variable {M M' N : vMe} {x y r a d u hz n k : Nat} {G F C D : Nat → Nat → Value} {P : Nat → Value} {T : Nat → Nat} {len : Nat} {Gs : Nat → Nat}
theorem pS_cv {D2 F3 : Nat → Nat → Value} (S : pS x y d r len T G N M' P D F) (cO : cOk N d D2) (rO : rOk M' r F3) (hk : kF F F3) : pS x y d r len T G (cv N d D2) M' P D2 F3 := by
  obtain ⟨⟨a1, a2, a3, a4⟩, ⟨b1, b2, b3, b4⟩, ⟨c1, c2⟩, ⟨d1, d2, d3⟩, ⟨g1, g2, g3⟩⟩ := S
  refine ⟨⟨a1.cv (.inl g3), a2, a3, a4⟩, ⟨?_, b2, b3, b4⟩, ⟨hB_cv, cO⟩, ⟨rO, d2.row (hk 3 (by omega) (by omega)), by unfold gt; rw [hk 0 (by omega) (by omega)]; exact d3⟩, ⟨g1, g2, g3⟩⟩
  unfold hY
  rw [cv_out (by omega)]; exact b1
theorem fr_cv {D2 F3 : Nat → Nat → Value} (hk : kF F F3) : fr y d N (cv N d D2) P P F F3 :=
  ⟨fun q _ q2 _ => cv_out q2, rfl, Nat.le_refl _, fun _ _ => rfl, fun i hi => hk i (by omega) (by omega), fun l _ => by rw [hk 0 (by omega) (by omega)]⟩
/-- a number comes or goes, on both sides -/
theorem op_P {s v : Nat} {b : Int32} (hb : b = 0 ∨ b = 1) (hC : cOk N d D) (hR : rOk M' r F) (hP : simP D F u hz n k) (hs : s < n) (hv : v < u) (h16 : gt F 0 16 = Int32.ofNat s) (h13 : gt F 0 13 = Int32.ofNat v) :
    ∃ D2 F3, (b = 0 → ∃ w, tX5_takeOut d (Int32.ofNat s) (Int32.ofNat v) (cv N d D) = some (w, cv N d D2)) ∧ (b = 1 → ∃ w, tX5_bringIn d (d + (4 + 8 * s)) (Int32.ofNat v) (cv N d D) = some (w, cv N d D2)) ∧
      (∀ K : vMe → Option ((Int32 ⊕ Unit) × vMe), (if b = 0 then ((gI (rv M' r F) r 12 16).bind fun v29 => (gI (rv M' r F) r 12 13).bind fun v30 => if ((rv M' r F).1 r).1 = 12 then ((tX10_isMember r v29 v30 (rv M' r F)).bind fun z31 => if z31 = 0 then K (rv M' r F) else ((gI (rv M' r F) r 12 16).bind fun v33 => (gI (rv M' r F) r 12 13).bind fun v34 => if ((rv M' r F).1 r).1 = 12 then ((tX10_goes r v33 v34 (rv M' r F)).bind fun z35 => K z35.2) else none)) else none)
        else ((gI (rv M' r F) r 12 16).bind fun v36 => (gI (rv M' r F) r 12 13).bind fun v37 => if ((rv M' r F).1 r).1 = 12 then ((tX10_comes r v36 v37 (rv M' r F)).bind fun z38 => K z38.2) else none)) = K (rv M' r F3)) ∧
      cOk N d D2 ∧ rOk M' r F3 ∧ kF F F3 ∧ kN D D2 ∧ simP D2 F3 u hz n k ∧ ∀ t, t ≠ s → t < 5 → ∀ w, w < 378 → oS F3 t w = oS F t w := by
  have hn5 := hP.1.2.2.1.2
  have hu := hP.1.1.2.2
  rcases hb with rfl | rfl
  · by_cases g : isM F s v
    · obtain ⟨D2, F3, w1, w2, w3, w4, w5, w6, w7, -, w9⟩ := go_P (M := N) (M' := M') hC hR hP hs hv g
      refine ⟨D2, F3, fun _ => ⟨_, w1⟩, fun c => absurd c (by decide), fun K => ?_, w3, w4, w5, w6, w7, w9⟩
      rw [if_pos rfl, r_gI, Option.bind_some, r_gI, Option.bind_some, h16, h13, if_pos r_tag, (r_isM (M := M') hR (by omega) (by omega) (hP.2.2.2.2.2 s hs).2 hu).1 g, Option.bind_some, if_neg n10, Option.bind_some, Option.bind_some, if_pos r_tag, w2, Option.bind_some]
    · refine ⟨D, F, fun _ => ⟨_, c_takeOut_no hC (by omega) (hP.2.2.2.2.2 s hs).2 (hP.2.2.2.2.2 s hs).1 hu (by omega) g⟩, fun c => absurd c (by decide), fun K => ?_, hC, hR, kF.rf, kN.rf, hP, fun _ _ _ _ _ => rfl⟩
      rw [if_pos rfl, r_gI, Option.bind_some, r_gI, Option.bind_some, h16, h13, if_pos r_tag, (r_isM (M := M') hR (by omega) (by omega) (hP.2.2.2.2.2 s hs).2 hu).2 g, Option.bind_some, if_pos rfl]
  · obtain ⟨D2, F3, w, w1, w2, w3, w4, w5, w6, w7, -, -, w9, -⟩ := come_P (M := N) (M' := M') hC hR hP hs hv
    refine ⟨D2, F3, fun c => absurd c (by decide), fun _ => ⟨_, w1⟩, fun K => ?_, w3, w4, w5, w6, w7, w9⟩
    rw [if_neg n10, r_gI, Option.bind_some, r_gI, Option.bind_some, h16, h13, if_pos r_tag, w2, Option.bind_some]
/-- one number of a line -/
theorem mem_J {c p e s : Nat} {b : Int32} (hb : b = 0 ∨ b = 1) (J : pJ x y d r len u hz n k T Gs G N M' P D F c p e) (hd : tkD Gs) (hs : s < n) (h16 : gt F 0 16 = Int32.ofNat s) :
    (∃ P2 F2, (∀ rec i, tX3_readMembers_J44_22 Gs rec y b (Int32.ofNat s) i N = some (.inl 0, pv N y P2)) ∧ (∀ rec, tX10_membersLine_J23_11 rec r b (rv M' r F) = some (.inl 0, rv M' r F2)) ∧ bad x y d r len T G N M' D F P2 F2 ∧ ∀ k, k < 3 → P2 k = P k) ∨
    (∃ N2 P2 D2 F2 c2 p2 e2, p < p2 ∧ (∀ rec i, tX3_readMembers_J44_22 Gs rec y b (Int32.ofNat s) i N = rec (i + 1) N2) ∧ (∀ rec, tX10_membersLine_J23_11 rec r b (rv M' r F) = rec 0 (rv M' r F2)) ∧ pJ x y d r len u hz n k T Gs G N2 M' P2 D2 F2 c2 p2 e2 ∧ fr y d N N2 P P2 F F2 ∧ gt F2 0 16 = Int32.ofNat s ∧ N2.2 = N.2) := by
  obtain ⟨S, t, hP, hN, h11, hG4, hZ, hE⟩ := J
  have hn5 := hP.1.2.2.1.2
  have hu := hP.1.1.2
  have ce := tokC_e t.2.2.2.2.2.2.2.1 t.2.2.2.2.2.2.1
  have b1 := S.2.1.1
  have g2 : gA N y 6 2 = some d := by rw [← b1.eq]; exact p_A S.2.1.2.2.1
  have g6 : gI N y 6 6 = some (vI (P 6)) := by rw [← b1.eq, p_I]
  have gu : gI N d 8 3 = some (Int32.ofNat u) := by rw [B_I0 S.2.2.1.1, hP.2.1.1, hP.1.1.1]
  have ru : aI (rv M' r F) (r + 1) 101 1 = some (Int32.ofNat u) := by
    have := r_now (M := M') (r := r) (F := F) (n := 1) (by omega)
    rw [hP.1.1.1] at this; exact this
  have dR := S.2.2.2.1
  rcases num_P (lo := 0) (hi := u - 1) S t hd h11 (by omega) (by omega) with ⟨P2, F2, q1, q2, q3⟩ | ⟨v, F2, c', p', e', h2, v0, v1, v2, q1, q2, q3, q4, q5, q6, q7⟩
  · left
    have hP3 : ∀ k, k < 3 → P2 k = P k := by
      -- the failure writes fields 7 and 8 alone
      obtain ⟨P3, F3, w1, w2, w3, w4, w5, w6, w7, w8, w9⟩ := fail_P (j := if c = 2 then 3 else 1) S t h11
      have c5 := tokC_5 t.2.2.2.2.2.2.2.1
      have g3 : gA N y 6 3 = some (Gs (tIx c)) := by rw [← b1.eq]; exact p_A t.1
      have cc : Gs (tIx c) = Gs 101 ↔ c = 2 := tIx_eq hd (j := 2) c5 (by omega)
      have key : tX3_isNumber Gs y (Int32.ofNat 0) (Int32.ofNat (u - 1)) N = some (0, pv N y P3) ∨ tX3_isNumber Gs y (Int32.ofNat 0) (Int32.ofNat (u - 1)) N = some (1, N) := by
        rw [tX3_isNumber, g3, Option.bind_some]
        by_cases h2 : c = 2
        · rw [if_pos h2] at w1
          have J3 : tX3_isNumber_J32 y N = some (0, pv N y P3) := by rw [tX3_isNumber_J32, if_pos (p_tg S), w1, Option.bind_some, if_pos rfl]
          rw [if_pos (cc.mpr h2), g6, Option.bind_some, Option.bind_some, J3]
          by_cases k1 : vI (P 6) < Int32.ofNat 0
          · rw [if_pos k1]; exact .inl rfl
          · rw [if_neg k1]
            by_cases k2 : vI (P 6) ≤ Int32.ofNat (u - 1)
            · rw [if_pos k2]; exact .inr rfl
            · rw [if_neg k2]; exact .inl rfl
        · rw [if_neg h2] at w1
          rw [if_neg (fun w => h2 (cc.mp w)), if_pos (p_tg S), w1, Option.bind_some, if_pos fz0]; exact .inl rfl
      rw [q1] at key
      rcases key with key | key
      · have e1 := congrArg (fun o : Option (Int32 × vMe) => o.map fun z => (z.2.1 y).2.2) key
        have e2 : some P2 = some P3 := by
          have : (some (((pv N y P2).1 y).2.2) : Option (Nat → Value)) = some (((pv N y P3).1 y).2.2) := e1
          rw [pv_at, pv_at] at this; exact this
        intro k hk
        rw [Option.some.inj e2]; exact w7 k (by omega)
      · exact absurd (show (0 : Int32) = 1 from congrArg Prod.fst (Option.some.inj key)) (by decide)
    refine ⟨P2, F2, fun rec i => ?_, fun rec => ?_, q3, hP3⟩
    · rw [tX3_readMembers_J44_22, g2, Option.bind_some, gu, Option.bind_some, if_pos (p_tg S), n_pred (by omega), show tX3_isNumber Gs y 0 (Int32.ofNat (u - 1)) N = _ from q1, Option.bind_some, if_pos rfl]
    · rw [tX10_membersLine_J23_11, rA1 dR.1, Option.bind_some, ru, Option.bind_some, if_pos r_tag, n_pred (by omega), show tX10_takes r 0 (Int32.ofNat (u - 1)) (rv M' r F) = _ from q2, Option.bind_some, if_pos rfl]
  · right
    have hP2 : simP D F2 u hz n k := simP_row hP (fun l _ => by rw [gt_row (q6 1 (by omega))])
    obtain ⟨D2, F3, o0, o1, oK, o3, o4, o5, o6, o7, o8⟩ := op_P (b := b) (s := s) (v := v) hb S.2.2.1.2 q3.2.2.2.1.1 hP2 hs (by omega) (by rw [show gt F2 0 16 = gt F 0 16 from by unfold gt; rw [q7 16 (by omega)]]; exact h16) q5
    have eN : cv N d D = N := S.2.2.1.1.eq
    rw [eN] at o0 o1
    have S3 : pS x y d r len T G (cv N d D2) M' P D2 F3 := pS_cv q3 o3 o4 o5
    obtain ⟨P2, c2, p2, e2, w1, w2, w3, w4⟩ := c_next (Gs := Gs) S3 t.2.2.2.2.1 ce.2.1
    have k0 := o5 0 (by omega) (by omega)
    have rk3 : rk T len F3 e c' p' e' := q4.row (fun l _ _ => by rw [k0])
    obtain ⟨tt, le⟩ := tk_join w3 rk3
    have lt := ce.2.2.1 (by omega)
    have ty : ((cv N d D2).1 y).1 = 6 := pSy S3
    refine ⟨pv (cv N d D2) y P2, P2, D2, F3, c2, p2, e2, by omega, fun rec i => ?_, fun rec => ?_, ⟨w2, tt, o7, simNm_pv (simNm_cv (simNm_row (simNm_row hN (q6 5 (by omega))) (o5 5 (by omega) (by omega))) hn5 hG4 o6) ty, ?_, hG4, (hZ.row (q6 1 (by omega))).fr hs o8, hE.mv w4 (by rw [k0, q7 12 (by omega)])⟩, ?_, ?_, rfl⟩
    · rw [tX3_readMembers_J44_22, g2, Option.bind_some, gu, Option.bind_some, if_pos (p_tg S), n_pred (by omega), show tX3_isNumber Gs y 0 (Int32.ofNat (u - 1)) N = _ from q1, Option.bind_some, if_neg n10, g2, Option.bind_some]
      have J4 : ∀ z, tX3_readMembers_J104_22 Gs rec y b z i (cv N d D2) = rec (i + 1) (pv (cv N d D2) y P2) := fun z => by
        rw [tX3_readMembers_J104_22, if_pos ty, w1, Option.bind_some]
      rcases hb with rfl | rfl
      · obtain ⟨w, ow⟩ := o0 rfl
        rw [if_pos rfl, g6, Option.bind_some, v2, if_pos (T_b S.2.2.1.1), ow, Option.bind_some, J4]
      · obtain ⟨w, ow⟩ := o1 rfl
        rw [if_neg n10, Option.bind_some, Option.bind_some, B_A0 S.2.2.1.1 S.2.2.1.2, Option.bind_some, B_S S.2.2.1.1 S.2.2.1.2 (by omega), Option.bind_some, g6, Option.bind_some, v2, if_pos (T_b S.2.2.1.1), ow, Option.bind_some, J4]
    · rw [tX10_membersLine_J23_11, rA1 dR.1, Option.bind_some, ru, Option.bind_some, if_pos r_tag, n_pred (by omega), show tX10_takes r 0 (Int32.ofNat (u - 1)) (rv M' r F) = _ from q2, Option.bind_some, if_neg n10]
      exact oK (fun z => tX10_membersLine_J87_11 rec r b z)
    · unfold gt; rw [k0, q7 11 (by omega)]; exact h11
    · exact ⟨fun q g1 g2 _ => by rw [pv_out g1, cv_out g2], rfl, Nat.le_refl _, fun k hk => w4 k (by omega), fun i hi => by rw [o5 i (by omega) (by omega), q6 i (by omega)], fun l hl => by rw [k0, q7 l (by omega)]⟩
    · unfold gt; rw [k0, q7 16 (by omega)]; exact h16
end
